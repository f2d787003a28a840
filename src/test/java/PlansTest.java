/** Promises 9 to 17: what PLANS name, what they are worth, and what follows from it. */
public final class PlansTest {
    private static final int MIN = Integer.MIN_VALUE;
    private static final int MAX = Integer.MAX_VALUE;
    private static final int PARTS = 7776;
    private static final int[] NO_PLAYER = {-1, 2, MIN, MAX};
    private static final Check check = new Check("PlansTest");

    // One PLAN goes in each round: PLAYER 1'S 2, PLAYER 0'S 2, PLAYER 1'S 0, PLAYER 0'S 0.
    private static final int[][] CHAIN0 = {{5, 1, 0}, {4, 3, 0}, {3, 2, 9}};
    private static final int[][] CHAIN1 = {{0, 2, 1}, {1, 4, 3}, {6, 5, 4}};

    public static void main(String[] args) {
        act();
        act64();
        worth();
        worthOfChance();
        answer();
        point();
        pointOfMany();
        perfect();
        within();
        withinOutside();
        than();
        thanOne();
        goes();
        goesAtOnce();
        sure();
        remembered();
        rememberedWays();
        rememberedOutside();
        check.close();
    }

    private static void act() {
        GameRows g = new GameRows();
        g.set(1, 2);
        g.set(0, 3);
        g.set(0, 2);
        g.set(0, 2);
        g.set(1, 3);
        int top = g.end(0, 0);
        top = Games.above(g, 2, 2, top);
        top = Games.above(g, 4, 3, top);
        top = Games.above(g, 0, 2, top);
        top = Games.above(g, 1, 3, top);
        for (int plan = 0; plan < 6; plan++) {
            check.same("0's plan " + plan + " for 1", g.act(0, plan, 1), plan / 2);
            check.same("0's plan " + plan + " for 2", g.act(0, plan, 2), plan % 2);
            check.same("1's plan " + plan + " for 0", g.act(1, plan, 0), plan / 3);
            check.same("1's plan " + plan + " for 4", g.act(1, plan, 4), plan % 3);
            check.same("a set of the other one", g.act(0, plan, 0), GameRows.NONE);
            check.same("a set of the other one", g.act(0, plan, 4), GameRows.NONE);
            check.same("a set of the other one", g.act(1, plan, 1), GameRows.NONE);
            check.same("a set that is not in it", g.act(0, plan, 3), GameRows.NONE);
            check.same("a set that is not in it, nor the player's", g.act(1, plan, 3), GameRows.NONE);
        }
        int[][] bad = {{0, 6, 1}, {1, 6, 0}, {0, -1, 1}, {0, 0, 5}, {0, 0, -1}, {-1, 0, 0}, {2, 0, 0}, {0, MAX, 1},
            {0, MIN, 1}, {0, 0, MAX}, {0, 0, MIN}, {MAX, 0, 0}, {MIN, 0, 0}, {0, 6, 0}, {0, 6, 3}, {0, 0, 10}};
        for (int[] b : bad) {
            check.same("act " + b[0] + " " + b[1] + " " + b[2], g.act(b[0], b[1], b[2]), GameRows.BAD);
        }
        g.end(0, 0);
        check.same("in the tree of an end", g.act(0, 0, 1), GameRows.NONE);
        check.same("no plan 1 there", g.act(0, 1, 1), GameRows.BAD);
    }

    private static void act64() {
        GameRows g = Games.widest();
        for (int plan = 0; plan < 64; plan++) {
            for (int s = 0; s < 6; s++) {
                check.same("plan " + plan + " for " + s, g.act(0, plan, s), plan >> 5 - s & 1);
            }
        }
        for (int plan = 0; plan < 54; plan++) {
            check.same("plan " + plan + " for 6", g.act(1, plan, 6), plan / 27);
            check.same("plan " + plan + " for 7", g.act(1, plan, 7), plan / 9 % 3);
            check.same("plan " + plan + " for 8", g.act(1, plan, 8), plan / 3 % 3);
            check.same("plan " + plan + " for 9", g.act(1, plan, 9), plan % 3);
        }
        check.same("plan 64", g.act(0, 64, 0), GameRows.BAD);
        check.same("plan 54", g.act(1, 54, 6), GameRows.BAD);
    }

    private static void worth() {
        GameRows g = Games.atOnce(CHAIN0, CHAIN1);
        for (int i = 0; i < 3; i++) {
            for (int j = 0; j < 3; j++) {
                check.same("worth " + i + " " + j + " 0", g.worth(i, j, 0), CHAIN0[i][j] * PARTS);
                check.same("worth " + i + " " + j + " 1", g.worth(i, j, 1), CHAIN1[i][j] * PARTS);
            }
        }
        int[][] bad = {{3, 0, 0}, {0, 3, 0}, {-1, 0, 0}, {0, -1, 0}, {0, 0, -1}, {0, 0, 2}, {MAX, 0, 0}, {0, MIN, 1},
            {0, 0, MAX}, {0, 0, MIN}};
        for (int[] b : bad) {
            check.same("worth " + b[0] + " " + b[1] + " " + b[2], g.worth(b[0], b[1], b[2]), GameRows.EMPTY);
        }

        // A SET twice on one way: the PLAN names one ACT for both.
        GameRows twice = new GameRows();
        twice.set(0, 2);
        int below = twice.node(0, twice.end(1, 1), twice.end(4, 4), -1);
        twice.node(0, below, twice.end(2, 2), -1);
        check.same("plans", twice.count(3), 2);
        check.same("0 and 0", twice.worth(0, 0, 0), PARTS);
        check.same("1", twice.worth(1, 0, 0), 2 * PARTS);
    }

    private static void worthOfChance() {
        // PLAYER 0 sees the card (1 of 3), PLAYER 1 does not.
        GameRows g = new GameRows();
        for (int card = 0; card < 3; card++) {
            g.set(0, 2);
        }
        g.set(1, 2);
        int[] tops = new int[3];
        for (int card = 0; card < 3; card++) {
            int out = g.end(-1, 1);
            int below = g.node(3, g.end(1, -1), g.end(3 * card - 3, 3 - 3 * card), -1);
            tops[card] = g.node(card, out, below, -1);
        }
        g.chance(tops[0], tops[1], tops[2]);
        check.same("all out", g.worth(0, 0, 0), -PARTS);
        check.same("all in, 1 yields", g.worth(7, 0, 0), PARTS);
        check.same("all in, 1 calls", g.worth(7, 1, 0), 0);
        check.same("the best card in, 1 calls", g.worth(1, 1, 0), (-1 - 1 + 3) * PARTS / 3);
        check.same("the worst card in, 1 calls", g.worth(4, 1, 1), (3 + 1 + 1) * PARTS / 3);
        check.same("games within", g.count(7), 1);
        check.same("the best answer to a call", g.answer(0, 1), 3);

        // Chances of 2 and of 3, one in the other.
        GameRows mixed = new GameRows();
        int inner = mixed.chance(mixed.end(7, 0), mixed.end(0, 7), mixed.end(-1, 1));
        mixed.chance(mixed.end(100, -100), inner, -1);
        check.same("2 over 3", mixed.worth(0, 0, 0), 100 * 3888 + 6 * 1296);
        check.same("2 over 3, player 1", mixed.worth(0, 0, 1), -100 * 3888 + 8 * 1296);
    }

    private static void answer() {
        GameRows g = Games.atOnce(CHAIN0, CHAIN1);
        int[] best0 = {0, 1, 2};
        int[] best1 = {1, 1, 0};
        for (int plan = 0; plan < 3; plan++) {
            check.same("0's answer to " + plan, g.answer(0, plan), best0[plan]);
            check.same("1's answer to " + plan, g.answer(1, plan), best1[plan]);
        }
        GameRows tie = Games.atOnce(new int[][] {{1, -5}, {7, -5}, {7, -5}}, new int[][] {{3, 3}, {-2, 1}, {1, -2}});
        check.same("the least of two", tie.answer(0, 0), 1);
        check.same("the least of three", tie.answer(0, 1), 0);
        check.same("the least of two of player 1", tie.answer(1, 0), 0);
        check.same("player 1 to 1", tie.answer(1, 1), 1);
        check.same("player 1 to 2", tie.answer(1, 2), 0);
        check.same("a plan that player 1 has not", tie.answer(0, 2), GameRows.BAD);
        check.same("a plan that player 0 has not", tie.answer(1, 3), GameRows.BAD);
        for (int player : NO_PLAYER) {
            check.same("answer of " + player, tie.answer(player, 0), GameRows.BAD);
        }
        for (int plan : new int[] {-1, 64, MIN, MAX}) {
            check.same("answer to " + plan, tie.answer(0, plan), GameRows.BAD);
            check.same("answer of 1 to " + plan, tie.answer(1, plan), GameRows.BAD);
        }
    }

    private static void rowOfPoints(String name, GameRows g, boolean perfect, int... due) {
        for (int k = 0; k < due.length; k++) {
            check.same(name + " point " + k + " " + perfect, g.point(perfect, k), due[k]);
        }
        for (int k : new int[] {-1, due.length, due.length + 1, MIN, MAX, MIN + due.length}) {
            check.same(name + " point " + k + " " + perfect, g.point(perfect, k), GameRows.NONE);
        }
        check.same(name + " points " + perfect, g.count(perfect ? 6 : 5), due.length);
    }

    private static void point() {
        rowOfPoints("entry", Games.entry(), false, 0, 65);
        rowOfPoints("entry", Games.entry(), true, 65);
        rowOfPoints("pennies", Games.pennies(), false);
        rowOfPoints("pennies", Games.pennies(), true);
        rowOfPoints("chain", Games.atOnce(CHAIN0, CHAIN1), false, 65);
        int[][] both = {{2, 0}, {0, 1}};
        rowOfPoints("both", Games.atOnce(both, both), false, 0, 65);
        int[][] none = {{0, 0, 0}, {0, 0, 0}};
        rowOfPoints("all", Games.atOnce(none, none), false, 0, 1, 2, 64, 65, 66);
        // A point needs both: neither the best of PLAYER 0 alone nor that of PLAYER 1.
        rowOfPoints("one", Games.atOnce(new int[][] {{3, 0}, {5, 1}}, new int[][] {{3, 5}, {0, 1}}), false, 65);
        GameRows end = new GameRows();
        end.end(-4, -5);
        rowOfPoints("end", end, false, 0);
        rowOfPoints("end", end, true, 0);
        // Behind the plain ones, in the same object, and the other way.
        GameRows g = Games.entry();
        check.same("perfect first", g.point(true, 0), 65);
        check.same("then plain", g.point(false, 0), 0);
        check.same("then perfect", g.point(true, 1), GameRows.NONE);
        check.same("then worth", g.worth(0, 1, 1), 2 * PARTS);
    }

    private static void pointOfMany() {
        // 64 PLANS of PLAYER 0 and 27 of PLAYER 1, all worth the same: all are POINTS.
        GameRows g = new GameRows();
        for (int s = 0; s < 6; s++) {
            g.set(0, 2);
        }
        for (int s = 6; s < 9; s++) {
            g.set(1, 3);
        }
        int[] tops = new int[3];
        for (int part = 0; part < 3; part++) {
            tops[part] = g.end(0, 0);
            tops[part] = Games.above(g, 2 * part, 2, tops[part]);
            tops[part] = Games.above(g, 2 * part + 1, 2, tops[part]);
            tops[part] = Games.above(g, 6 + part, 3, tops[part]);
        }
        g.chance(tops[0], tops[1], tops[2]);
        check.same("points", g.count(5), 64 * 27);
        check.same("perfect points", g.count(6), 64 * 27);
        check.same("games within", g.count(7), 10);
        for (int k = 0; k < 64 * 27; k += 13) {
            check.same("point " + k, g.point(k % 2 == 0, k), k / 27 * 64 + k % 27);
        }
        check.same("the last point", g.point(true, 64 * 27 - 1), 63 * 64 + 26);
        check.same("no more", g.point(true, 64 * 27), GameRows.NONE);
        check.same("pairs left", g.count(8), 64 * 27);
    }

    private static void perfect() {
        // PLAYER 0 stays out (2, 2), or both choose at once: (3, 1) and (1, 3) are the points there.
        GameRows g = new GameRows();
        g.set(0, 2);
        g.set(0, 2);
        g.set(1, 2);
        int up = g.node(2, g.end(3, 1), g.end(0, 0), -1);
        int down = g.node(2, g.end(0, 0), g.end(1, 3), -1);
        int inner = g.node(1, up, down, -1);
        int root = g.node(0, g.end(2, 2), inner, -1);
        check.same("games within", g.count(7), 2);
        check.same("the inner one", g.within(0), inner);
        check.same("the tree", g.within(1), root);
        rowOfPoints("at once", g, false, 1, 65, 128);
        rowOfPoints("at once", g, true, 65, 128);

        // Without the root's set a point of its own, PLANS count as far as their SETS are there.
        GameRows idle = Games.entry();
        idle.set(1, 2);
        int side = idle.node(2, idle.end(0, 4), idle.end(0, 5), -1);
        idle.chance(4, side, -1);
        rowOfPoints("with a side game", idle, false, 1, 67);
        rowOfPoints("with a side game", idle, true, 67);
    }

    private static void rowOfWithin(String name, GameRows g, int... due) {
        for (int k = 0; k < due.length; k++) {
            check.same(name + " within " + k, g.within(k), due[k]);
        }
        for (int k : new int[] {-1, due.length, due.length + 1, MIN, MAX}) {
            check.same(name + " within " + k, g.within(k), GameRows.NONE);
        }
        check.same(name + " games within", g.count(7), due.length);
    }

    private static void within() {
        rowOfWithin("entry", Games.entry(), 3, 4);
        rowOfWithin("pennies", Games.pennies(), 6);
        GameRows end = new GameRows();
        end.end(0, 0);
        rowOfWithin("an end", end, 0);
        end.chance(0, -1, -1);
        rowOfWithin("a chance", end, 1);

        // A CHANCE that is not THE ROOT begins none, though all below it is there.
        GameRows chance = new GameRows();
        chance.set(0, 2);
        chance.set(1, 2);
        int low = chance.node(0, chance.end(0, 0), chance.end(0, 0), -1);
        int mid = chance.chance(low, chance.end(0, 0), -1);
        int top = chance.node(1, mid, chance.end(0, 0), -1);
        rowOfWithin("a chance between", chance, low, top);

        // A SET twice on a way: no game at its NODES, but one at THE ROOT, and above it.
        GameRows twice = new GameRows();
        twice.set(0, 2);
        twice.set(1, 2);
        int below = twice.node(0, twice.end(1, 1), twice.end(4, 4), -1);
        int above = twice.node(0, below, twice.end(2, 2), -1);
        rowOfWithin("twice, the root", twice, above);
        int whole = twice.node(1, above, twice.end(0, 0), -1);
        rowOfWithin("twice, below the root", twice, whole);

        // A SET that reaches out of the game of a NODE that is alone in its own.
        for (int reaching = 0; reaching < 2; reaching++) {
            GameRows out = new GameRows();
            out.set(1 - reaching, 2);
            out.set(reaching, 2);
            out.set(0, 2);
            int left = out.node(reaching, out.end(0, 0), out.end(0, 0), -1);
            int alone = out.node(2, left, out.end(0, 0), -1);
            int right = out.node(reaching, out.end(0, 0), out.end(0, 0), -1);
            int all = out.node(1 - reaching, alone, right, -1);
            check.same("alone is put in", alone, 4);
            rowOfWithin("reaches out", out, all);
        }
    }

    private static void withinOutside() {
        // NODES of the SETS that are not in THE TREE do not count.
        GameRows g = Games.entry();
        int other = g.node(1, g.end(0, 0), g.end(0, 0), -1);
        rowOfWithin("the last one alone", g, other);
        int otherRoot = g.node(0, g.end(0, 0), other, -1);
        rowOfWithin("a second tree", g, other, otherRoot);
        check.same("perfect there", g.count(6), 4);
        g.chance(4, otherRoot, -1);
        rowOfWithin("both trees", g, otherRoot + 1);
        check.same("perfect in both", g.count(6), g.count(5));
    }

    private static void than() {
        GameRows g = Games.atOnce(CHAIN0, CHAIN1);
        int[][] worse = {{-1, -1, -1}, {-1, -1, 1}};
        int[][] weakly = {{-1, -1, -1}, {-1, -1, 1}};
        for (int player = 0; player < 2; player++) {
            for (int plan = 0; plan < 3; plan++) {
                check.same("worse " + player + " " + plan, g.than(player, plan, 0), worse[player][plan]);
                check.same("weakly " + player + " " + plan, g.than(player, plan, 1), weakly[player][plan]);
                check.same("one " + player + " " + plan, g.than(player, plan, 2), plan);
            }
        }
        int[][] worths = {{1, 1}, {2, 1}, {3, 2}};
        GameRows rows = Games.atOnce(worths, new int[][] {{0, 0}, {0, 0}, {0, 1}});
        check.same("worse than 2 alone", rows.than(0, 0, 0), 2);
        check.same("weakly worse than 1 already", rows.than(0, 0, 1), 1);
        check.same("1 is worse than 2", rows.than(0, 1, 0), 2);
        check.same("1 is weakly worse than 2", rows.than(0, 1, 1), 2);
        check.same("2 is worse than none", rows.than(0, 2, 0), GameRows.NONE);
        check.same("2 is weakly worse than none", rows.than(0, 2, 1), GameRows.NONE);
        check.same("player 1: 0 is not worse", rows.than(1, 0, 0), GameRows.NONE);
        check.same("player 1: 0 is weakly worse", rows.than(1, 0, 1), 1);
        check.same("player 1: 1 is not", rows.than(1, 1, 1), GameRows.NONE);
        int[][] least = {{5, 5}, {0, 0}, {6, 6}};
        GameRows two = Games.atOnce(least, Games.negated(least));
        check.same("the least of the better ones", two.than(0, 1, 0), 0);
        check.same("the least of the weakly better ones", two.than(0, 1, 1), 0);
        check.same("alike is not weakly worse", two.than(1, 0, 1), GameRows.NONE);
        int[][] bad = {{0, 3, 0}, {1, 2, 0}, {0, -1, 0}, {0, 0, -1}, {0, 0, 3}, {-1, 0, 0}, {2, 0, 0}, {MAX, 0, 0},
            {MIN, 0, 1}, {0, MAX, 1}, {0, MIN, 2}, {0, 0, MAX}, {0, 0, MIN}};
        for (int[] b : bad) {
            check.same("than " + b[0] + " " + b[1] + " " + b[2], two.than(b[0], b[1], b[2]), GameRows.BAD);
        }
        // Against all PLANS, also those that go in ROUNDS.
        check.same("0's 2 is worse but for 1's 2, which goes", g.than(0, 2, 0), GameRows.NONE);
        check.same("and does go", g.goes(0, 2), 2);
    }

    private static void thanOne() {
        // PLAYER 0'S inner SET does not matter if the outer ACT is 0: PLANS 0 and 1 are ONE.
        GameRows g = new GameRows();
        g.set(0, 2);
        g.set(0, 2);
        g.set(1, 2);
        int inner = g.node(1, g.end(1, 2), g.end(3, 4), -1);
        int reply = g.node(2, inner, g.end(0, 1), -1);
        g.node(0, g.end(5, 5), reply, -1);
        int[] due = {0, 0, 2, 3};
        for (int plan = 0; plan < 4; plan++) {
            check.same("one with " + plan, g.than(0, plan, 2), due[plan]);
        }
        check.same("of player 1", g.than(1, 1, 2), 1);
        // Alike for PLAYER 0 alone, or for PLAYER 1 alone, is not ONE.
        int[][] same = {{1, 2}, {1, 2}, {1, 2}};
        GameRows half = Games.atOnce(same, new int[][] {{0, 0}, {0, 1}, {0, 0}});
        check.same("alike for 0 alone", half.than(0, 1, 2), 1);
        check.same("alike for both", half.than(0, 2, 2), 0);
        GameRows other = Games.atOnce(new int[][] {{0, 0}, {0, 1}}, new int[][] {{3, 3}, {4, 4}});
        check.same("alike for 1 alone", other.than(1, 1, 2), 1);
        GameRows columns = Games.atOnce(new int[][] {{1, 1, 1}, {2, 7, 2}}, new int[][] {{0, 0, 0}, {5, 5, 5}});
        check.same("alike in the first row alone", columns.than(1, 1, 2), 1);
        check.same("alike in both rows", columns.than(1, 2, 2), 0);
    }

    private static void goes() {
        GameRows g = Games.atOnce(CHAIN0, CHAIN1);
        int[][] due = {{4, -1, 2}, {3, -1, 1}};
        for (int player = 0; player < 2; player++) {
            for (int plan = 0; plan < 3; plan++) {
                check.same("goes " + player + " " + plan, g.goes(player, plan), due[player][plan]);
            }
            check.same("plan 3", g.goes(player, 3), GameRows.BAD);
            check.same("plan -1", g.goes(player, -1), GameRows.BAD);
            check.same("plan MAX", g.goes(player, MAX), GameRows.BAD);
            check.same("plan MIN", g.goes(player, MIN), GameRows.BAD);
        }
        for (int player : NO_PLAYER) {
            check.same("goes of " + player, g.goes(player, 0), GameRows.BAD);
        }
        check.same("pairs left", g.count(8), 1);
    }

    private static void goesAtOnce() {
        int[][] mine = {{3, 0}, {5, 1}};
        int[][] theirs = {{3, 5}, {0, 1}};
        GameRows g = Games.atOnce(mine, theirs);
        check.same("both go at once, 0", g.goes(0, 0), 1);
        check.same("both go at once, 1", g.goes(1, 0), 1);
        check.same("left, 0", g.goes(0, 1), GameRows.NONE);
        check.same("left, 1", g.goes(1, 1), GameRows.NONE);

        // What is worse than one that goes in the same round goes with it.
        GameRows line = Games.atOnce(new int[][] {{0, 0}, {1, 1}, {2, 2}}, new int[][] {{0, 0}, {0, 0}, {0, 0}});
        check.same("0 of a line", line.goes(0, 0), 1);
        check.same("1 of a line", line.goes(0, 1), 1);
        check.same("2 of a line", line.goes(0, 2), GameRows.NONE);
        check.same("pairs of a line", line.count(8), 2);

        // Weakly worse ones stay.
        GameRows weak = Games.atOnce(new int[][] {{1, 0}, {1, 1}}, new int[][] {{0, 0}, {0, 0}});
        check.same("weakly worse", weak.than(0, 0, 1), 1);
        check.same("does not go", weak.goes(0, 0), GameRows.NONE);
        check.same("pairs left", weak.count(8), 4);
    }

    private static void sure() {
        GameRows g = Games.atOnce(CHAIN0, CHAIN1);
        check.same("sure of 0", g.sure(0), 2 * PARTS);
        check.same("sure of 1", g.sure(1), 2 * PARTS);
        GameRows pennies = Games.pennies();
        check.same("pennies of 0", pennies.sure(0), -PARTS);
        check.same("pennies of 1", pennies.sure(1), -PARTS);
        int[][] worths = {{-100, 90}, {-60, -70}};
        GameRows low = Games.atOnce(worths, Games.negated(worths));
        check.same("low of 0", low.sure(0), -70 * PARTS);
        check.same("low of 1", low.sure(1), 60 * PARTS);
        for (int player : NO_PLAYER) {
            check.same("sure of " + player, low.sure(player), GameRows.EMPTY);
        }
    }

    /** PLAYER 0'S SET 0 at the top, and a NODE of the SET below each ACT. */
    private static GameRows twoBelow(int player, int setLeft, int setRight) {
        GameRows g = new GameRows();
        g.set(0, 2);
        g.set(player, 2);
        g.set(player, 2);
        int left = g.node(setLeft, g.end(0, 0), g.end(0, 0), -1);
        int right = g.node(setRight, g.end(0, 0), g.end(0, 0), -1);
        g.node(0, left, right, -1);
        return g;
    }

    private static void remembered() {
        GameRows own = twoBelow(0, 1, 1);
        check.same("the own act is forgotten", own.remembered(0), 0);
        check.same("that is not the other one's", own.remembered(1), 1);
        GameRows hidden = twoBelow(1, 1, 1);
        check.same("the act of the other one is hidden", hidden.remembered(1), 1);
        check.same("0 has one set", hidden.remembered(0), 1);
        check.same("two sets", twoBelow(0, 1, 2).remembered(0), 1);
        check.same("the set itself again", twoBelow(0, 0, 1).remembered(0), 0);

        // Chance shows PLAYER 1 which of two SETS it is, and PLAYER 1 forgets it.
        for (int player = 0; player < 2; player++) {
            for (int forgets = 0; forgets < 2; forgets++) {
                GameRows g = new GameRows();
                g.set(player, 2);
                g.set(player, 2);
                g.set(player, 3);
                g.set(player, 3);
                int left = g.node(2, g.end(0, 0), g.end(0, 0), g.end(0, 0));
                int right = g.node(forgets == 1 ? 2 : 3, g.end(0, 0), g.end(0, 0), g.end(0, 0));
                int first = g.node(0, left, g.end(0, 0), -1);
                int second = g.node(1, right, g.end(0, 0), -1);
                g.chance(first, second, -1);
                check.same("forgets which set " + forgets, g.remembered(player), 1 - forgets);
                check.same("of the other one", g.remembered(1 - player), 1);
            }
        }

        // Chance and the other one's acts on the way do not count, the order of the own ones does.
        GameRows order = new GameRows();
        order.set(0, 2);
        order.set(0, 2);
        order.set(0, 2);
        int left = order.node(2, order.end(0, 0), order.end(0, 0), -1);
        left = order.node(1, order.node(0, left, order.end(0, 0), -1), order.end(0, 0), -1);
        check.same("one way", order.remembered(0), 1);
        int right = order.node(2, order.end(0, 0), order.end(0, 0), -1);
        right = order.node(0, order.node(1, right, order.end(0, 0), -1), order.end(0, 0), -1);
        order.chance(left, right, -1);
        check.same("the other order", order.remembered(0), 0);
        for (int without = 0; without < 3; without++) {
            GameRows third = new GameRows();
            third.set(1, 3);
            third.set(1, 2);
            int[] below = new int[3];
            for (int i = 0; i < 3; i++) {
                below[i] = i == without ? third.end(0, 0) : third.node(1, third.end(0, 0), third.end(0, 0), -1);
            }
            third.node(0, below[0], below[1], below[2]);
            check.same("two of three acts, without " + without, third.remembered(1), 0);
            check.same("of the other one", third.remembered(0), 1);
        }
        for (int player : NO_PLAYER) {
            check.same("remembered of " + player, order.remembered(player), GameRows.BAD);
        }
    }

    /** Two NODES of SET 9, each below two others of the PLAYER, with any SETS and ACTS there. */
    private static void rememberedWays() {
        int compared = 0;
        for (int acts = 2; acts <= 3; acts++) {
            for (int i = 0; i < 81; i++) {
                for (int j = 0; j < 9; j++) {
                    int[] left = {i / 27, i / 9 % 3 % acts, 3 + i / 3 % 3, i % 3 % acts};
                    int[] right = {j / 3, j % 3 % acts, 4, 1};
                    GameRows g = new GameRows();
                    for (int s = 0; s < 10; s++) {
                        g.set(0, acts);
                    }
                    // With 3 ACTS there are too many PLANS for two SETS more on the second way.
                    if (g.chance(wayOfTwo(g, acts, left), wayOfTwo(g, acts, right), -1) != GameRows.WRONG) {
                        compared++;
                        boolean alike = java.util.Arrays.equals(left, right);
                        check.same("ways " + i + " " + j + " of " + acts, g.remembered(0), alike ? 1 : 0);
                    }
                }
            }
        }
        check.same("ways that were compared", compared, 81 * 9 + 81);
    }

    private static int wayOfTwo(GameRows g, int acts, int[] way) {
        int node = g.node(9, g.end(0, 0), g.end(0, 0), acts == 3 ? g.end(0, 0) : -1);
        for (int i = 2; i >= 0; i -= 2) {
            int[] children = {-1, -1, -1};
            for (int a = 0; a < acts; a++) {
                children[a] = a == way[i + 1] ? node : g.end(0, 0);
            }
            node = g.node(way[i], children[0], children[1], children[2]);
        }
        return node;
    }

    private static void rememberedOutside() {
        GameRows g = twoBelow(0, 1, 1);
        check.same("forgotten", g.remembered(0), 0);
        int again = g.node(1, g.end(0, 0), g.end(0, 0), -1);
        check.same("a node of it alone", g.remembered(0), 1);
        int over = g.node(2, again, g.end(0, 0), -1);
        check.same("the other tree does not count", g.remembered(0), 1);
        g.chance(over, again - 3, -1);
        check.same("both trees", g.remembered(0), 0);
        g.end(0, 0);
        check.same("an end alone", g.remembered(0), 1);
    }
}
