/** Promises 1 to 8: what is put in, what is refused, and what is told of it. */
public final class BuildTest {
    private static final int MIN = Integer.MIN_VALUE;
    private static final int MAX = Integer.MAX_VALUE;
    private static final Check check = new Check("BuildTest");

    public static void main(String[] args) {
        constants();
        newObject();
        clear();
        set();
        end();
        chance();
        chanceDeep();
        chanceWrong();
        node();
        nodeDeepAndWrong();
        orderOfRefusals();
        count();
        countOfTree();
        told();
        check.close();
    }

    private static void constants() {
        check.same("NONE", GameRows.NONE, -1);
        check.same("BAD", GameRows.BAD, -2);
        check.same("FULL", GameRows.FULL, -3);
        check.same("TAKEN", GameRows.TAKEN, -4);
        check.same("DEEP", GameRows.DEEP, -5);
        check.same("WRONG", GameRows.WRONG, -6);
        check.same("EMPTY", GameRows.EMPTY, -1000000);
    }

    private static void newObject() {
        emptyThroughout("new", new GameRows());
        GameRows a = new GameRows();
        a.end(1, 1);
        a.set(0, 2);
        emptyThroughout("a second object", new GameRows());
    }

    /** Everything that needs THE TREE, with good and with bad numbers. */
    private static void emptyThroughout(String when, GameRows g) {
        check.same(when + " nodes", g.count(0), 0);
        check.same(when + " sets", g.count(1), 0);
        check.same(when + " nodes in the tree", g.count(2), 0);
        for (int what = 3; what <= 9; what++) {
            check.same(when + " count " + what, g.count(what), GameRows.EMPTY);
        }
        check.same(when + " count 10", g.count(10), GameRows.BAD);
        check.same(when + " count -1", g.count(-1), GameRows.BAD);
        for (int x : new int[] {0, 1, -1, 77, MIN, MAX}) {
            check.same(when + " told " + x, g.told(x, x), GameRows.EMPTY);
            check.same(when + " act " + x, g.act(x, x, x), GameRows.EMPTY);
            check.same(when + " worth " + x, g.worth(x, x, x), GameRows.EMPTY);
            check.same(when + " answer " + x, g.answer(x, x), GameRows.EMPTY);
            check.same(when + " point " + x, g.point(false, x), GameRows.EMPTY);
            check.same(when + " perfect point " + x, g.point(true, x), GameRows.EMPTY);
            check.same(when + " within " + x, g.within(x), GameRows.EMPTY);
            check.same(when + " than " + x, g.than(x, x, x), GameRows.EMPTY);
            check.same(when + " goes " + x, g.goes(x, x), GameRows.EMPTY);
            check.same(when + " sure " + x, g.sure(x), GameRows.EMPTY);
            check.same(when + " remembered " + x, g.remembered(x), GameRows.EMPTY);
            check.same(when + " taken " + x, g.taken(x, x, x), GameRows.EMPTY);
            check.same(when + " bound " + x, g.bound(x, x), GameRows.EMPTY);
        }
    }

    private static void clear() {
        GameRows g = Games.entry();
        check.same("clear of 5", g.clear(), 5);
        emptyThroughout("cleared", g);
        check.same("clear again", g.clear(), 0);
        check.same("first set behind clear", g.set(1, 3), 0);
        check.same("clear with a set alone", g.clear(), 0);
        check.same("sets behind it", g.count(1), 0);
        check.same("first end behind clear", g.end(3, 4), 0);
        check.same("a fresh node has no parent", g.told(0, 2), GameRows.NONE);
        check.same("a fresh end has no children", g.told(0, 4), GameRows.NONE);
        check.same("worth behind clear", g.worth(0, 0, 1), 4 * 7776);

        // The same NUMBERS in another game: nothing of the old one may be left.
        GameRows h = Games.entry();
        check.same("points before", h.count(5), 2);
        check.same("goes before", h.goes(0, 0), GameRows.NONE);
        check.same("taken before", h.taken(9, 0, 0), 9);
        h.clear();
        h.set(1, 2);
        h.set(0, 2);
        h.end(0, 2);
        h.end(5, -1);
        h.end(1, 1);
        h.node(1, 1, 2, -1);
        h.node(0, 0, 3, -1);
        check.same("points behind", h.count(5), 2);
        check.same("point behind", h.point(false, 1), 64);
        check.same("perfect point behind", h.point(true, 0), 0);
        check.same("goes behind", h.goes(1, 1), 1);
        check.same("goes behind of 0", h.goes(0, 1), GameRows.NONE);
        check.same("taken behind", h.taken(9, 1, 0), 9);
        check.same("within behind", h.count(7), 2);
        GameRows full = new GameRows();
        for (int i = 0; i < 40; i++) {
            full.end(i, i);
        }
        check.same("clear of 40", full.clear(), 40);
    }

    private static void set() {
        GameRows g = new GameRows();
        int[][] bad = {{-1, 2}, {2, 2}, {0, 1}, {0, 4}, {1, 0}, {1, -2}, {MAX, 2}, {MIN, 3}, {0, MAX}, {1, MIN}};
        for (int[] b : bad) {
            check.same("set " + b[0] + " " + b[1], g.set(b[0], b[1]), GameRows.BAD);
        }
        check.same("no set came of it", g.count(1), 0);
        for (int s = 0; s < 10; s++) {
            check.same("set " + s, g.set(s % 2, 2 + s % 2), s);
            check.same("sets now", g.count(1), s + 1);
        }
        check.same("set 10", g.set(0, 2), GameRows.FULL);
        check.same("set 10 of player 1", g.set(1, 3), GameRows.FULL);
        for (int[] b : bad) {
            check.same("BAD before FULL " + b[0] + " " + b[1], g.set(b[0], b[1]), GameRows.BAD);
        }
        check.same("sets at last", g.count(1), 10);
        g.clear();
        check.same("set behind clear", g.set(0, 2), 0);
        // A SET in the midst of a game changes nothing of THE TREE.
        GameRows h = Games.entry();
        h.set(0, 3);
        check.same("plans with a set not in it", h.count(3), 2);
        check.same("points with a set not in it", h.point(true, 0), 65);
    }

    private static void end() {
        GameRows g = new GameRows();
        int[][] bad = {{-101, 0}, {101, 0}, {0, -101}, {0, 101}, {MIN, 0}, {0, MAX}, {MAX, MIN}};
        for (int[] b : bad) {
            check.same("end " + b[0] + " " + b[1], g.end(b[0], b[1]), GameRows.BAD);
        }
        check.same("no end came of it", g.count(0), 0);
        check.same("end -100 100", g.end(-100, 100), 0);
        check.same("its worth for 0", g.worth(0, 0, 0), -777600);
        check.same("its worth for 1", g.worth(0, 0, 1), 777600);
        check.same("end 100 -100", g.end(100, -100), 1);
        check.same("the last one is the root", g.worth(0, 0, 0), 777600);
        check.same("one node in the tree", g.count(2), 1);
        for (int n = 2; n < 40; n++) {
            check.same("end " + n, g.end(n, -n), n);
        }
        check.same("end 40", g.end(0, 0), GameRows.FULL);
        check.same("BAD before FULL", g.end(0, 101), GameRows.BAD);
        check.same("40 nodes", g.count(0), 40);
        check.same("FULL changes nothing", g.worth(0, 0, 0), 39 * 7776);
    }

    private static void chance() {
        GameRows g = new GameRows();
        check.same("chance of none", g.chance(0, -1, -1), GameRows.BAD);
        for (int i = 0; i < 8; i++) {
            g.end(i, 10 * i);
        }
        int[][] bad = {{-1, -1, -1}, {8, -1, -1}, {0, 8, -1}, {0, 1, 8}, {-1, 0, 1}, {0, -1, 1}, {0, -2, -1},
            {0, 1, -2}, {-2, 1, 2}, {MIN, 0, 1}, {0, MIN, -1}, {0, 1, MAX}, {-1, -1, 0}, {-1, 0, -1}};
        for (int[] b : bad) {
            check.same("chance " + b[0] + " " + b[1] + " " + b[2], g.chance(b[0], b[1], b[2]), GameRows.BAD);
        }
        int[][] twice = {{0, 0, -1}, {0, 0, 1}, {0, 1, 0}, {1, 0, 0}, {0, 0, 0}};
        for (int[] t : twice) {
            check.same("twice " + t[0] + " " + t[1] + " " + t[2], g.chance(t[0], t[1], t[2]), GameRows.TAKEN);
        }
        check.same("nothing came of it", g.count(0), 8);
        check.same("no parent came of it", g.told(0, 2), GameRows.NONE);
        check.same("one child", g.chance(1, -1, -1), 8);
        check.same("worth of one child", g.worth(0, 0, 1), 10 * 7776);
        check.same("two children", g.chance(0, 2, -1), 9);
        check.same("worth of two children", g.worth(0, 0, 0), 7776);
        check.same("three children", g.chance(3, 4, 6), 10);
        check.same("worth of three children", g.worth(0, 0, 0), 13 * 7776 / 3);
        check.same("first taken", g.chance(3, 5, -1), GameRows.TAKEN);
        check.same("second taken", g.chance(5, 4, -1), GameRows.TAKEN);
        check.same("third taken", g.chance(5, 7, 6), GameRows.TAKEN);
        g.set(0, 2);
        g.set(1, 3);
        check.same("of chances", g.chance(8, 9, 10), 11);
        check.same("no sets in it, plans of 0", g.count(3), 1);
        check.same("no sets in it, plans of 1", g.count(4), 1);
        check.same("nodes in the tree", g.count(2), 10);
        check.same("worth of chances", g.worth(0, 0, 0), 7776 / 3 + 7776 / 3 + 13 * 7776 / 9);
    }

    private static void chanceDeep() {
        GameRows g = new GameRows();
        int top = g.end(100, -99);
        for (int i = 1; i <= 5; i++) {
            top = g.chance(top, g.end(0, 0), g.end(1, 0));
            check.same("chances on a way " + i, g.count(9), i);
        }
        check.same("3 to the 5", g.worth(0, 0, 0), 32 * (100 + 1 + 3 + 9 + 27 + 81));
        check.same("3 to the 5, player 1", g.worth(0, 0, 1), -99 * 32);
        int before = g.count(0);
        check.same("6 chances", g.chance(top, -1, -1), GameRows.DEEP);
        int end = g.end(0, 0);
        check.same("6 chances on the second way", g.chance(end, top, -1), GameRows.DEEP);
        int second = g.end(0, 0);
        check.same("6 chances on the third way", g.chance(end, second, top), GameRows.DEEP);
        check.same("nothing came of it", g.count(0), before + 2);
        check.same("still no parent", g.told(top, 2), GameRows.NONE);
        g.set(0, 2);
        int over = g.node(0, top, end, -1);
        check.same("a node over 5 chances", over, before + 2);
        check.same("6 chances with a node between", g.chance(over, -1, -1), GameRows.DEEP);

        // Chances on two ways do not add up.
        GameRows two = new GameRows();
        int left = two.end(1, 1);
        int right = two.end(2, 2);
        for (int i = 0; i < 4; i++) {
            left = two.chance(left, -1, -1);
            right = two.chance(right, -1, -1);
        }
        check.same("4 and 4 below one", two.chance(left, right, -1), 10);
        check.same("its worth", two.worth(0, 0, 0), 3 * 7776 / 2);

        GameRows deep = new GameRows();
        deep.set(0, 2);
        int node = deep.end(1, 1);
        for (int i = 1; i <= 8; i++) {
            node = deep.node(0, node, deep.end(0, 0), -1);
        }
        check.same("depth 8", deep.count(9), 8);
        check.same("a chance at depth 9", deep.chance(node, -1, -1), GameRows.DEEP);
        check.same("it is still the root", deep.told(node, 2), GameRows.NONE);
        check.same("a chance in another tree", deep.chance(deep.end(0, 0), -1, -1), node + 2);
    }

    private static void chanceWrong() {
        for (int player = 0; player < 2; player++) {
            GameRows g = new GameRows();
            int[] tops = {-1, -1};
            int set = 0;
            for (int part = 0; part < 2; part++) {
                int top = g.end(0, 0);
                for (int i = 0; i < 3 + part; i++) {
                    g.set(player, 2);
                    top = Games.above(g, set++, 2, top);
                }
                tops[part] = top;
            }
            int before = g.count(0);
            check.same("128 plans of " + player, g.chance(tops[0], tops[1], -1), GameRows.WRONG);
            check.same("128 plans the other way", g.chance(tops[1], tops[0], -1), GameRows.WRONG);
            check.same("nothing came of it", g.count(0), before);
            check.same("no parent came of it", g.told(tops[0], 2), GameRows.NONE);
            check.same("16 plans are left", g.count(3 + player), 16);
            check.same("one alone", g.chance(tops[1], -1, -1), before);
        }
    }

    private static void node() {
        GameRows g = new GameRows();
        for (int i = 0; i < 12; i++) {
            g.end(i, -i);
        }
        check.same("no sets", g.node(0, 0, 1, -1), GameRows.BAD);
        g.set(0, 2);
        g.set(1, 3);
        int[][] bad = {{-1, 0, 1, 2}, {2, 0, 1, 2}, {MAX, 0, 1, 2}, {MIN, 0, 1, 2}, {0, -1, 1, 2}, {0, 0, -1, 2},
            {0, 12, 1, 2}, {0, 0, 12, 2}, {1, 0, 1, -1}, {1, 0, 1, 12}, {1, -1, 0, 1}, {1, 0, -1, 1},
            {1, 0, 1, MIN}, {1, 0, 1, MAX}, {0, MIN, 0, 0}, {0, 0, MAX, 0}};
        for (int[] b : bad) {
            check.same("node " + b[0] + " " + b[1] + " " + b[2] + " " + b[3], g.node(b[0], b[1], b[2], b[3]), GameRows.BAD);
        }
        check.same("twice of two", g.node(0, 3, 3, -1), GameRows.TAKEN);
        check.same("twice of three, 0 1", g.node(1, 3, 3, 4), GameRows.TAKEN);
        check.same("twice of three, 0 2", g.node(1, 3, 4, 3), GameRows.TAKEN);
        check.same("twice of three, 1 2", g.node(1, 4, 3, 3), GameRows.TAKEN);
        check.same("nothing came of it", g.count(0), 12);
        check.same("c does not count: a child again", g.node(0, 0, 1, 1), 12);
        check.same("c is no child", g.told(12, 5), GameRows.NONE);
        check.same("c does not count: taken", g.node(0, 2, 3, 1), 13);
        check.same("c does not count: far off", g.node(0, 4, 5, MAX), 14);
        check.same("c does not count: far below", g.node(0, 6, 7, MIN), 15);
        check.same("three", g.node(1, 8, 9, 10), 16);
        check.same("a taken", g.node(0, 8, 11, -1), GameRows.TAKEN);
        check.same("b taken", g.node(0, 11, 8, -1), GameRows.TAKEN);
        check.same("c taken", g.node(1, 11, 12, 8), GameRows.TAKEN);
        check.same("act 0", g.worth(0, 0, 0), 8 * 7776);
        check.same("act 2", g.worth(0, 2, 1), -10 * 7776);
        check.same("node over nodes", g.node(1, 12, 16, 13), 17);
        check.same("its nodes", g.count(2), 11);
    }

    private static void nodeDeepAndWrong() {
        GameRows deep = new GameRows();
        deep.set(0, 2);
        deep.set(1, 3);
        int node = deep.end(1, 1);
        for (int i = 1; i <= 8; i++) {
            node = deep.node(0, node, deep.end(0, 0), -1);
            check.same("depth " + i, deep.count(9), i);
        }
        int other = deep.end(0, 0);
        int third = deep.end(0, 0);
        int before = deep.count(0);
        check.same("depth 9 by a", deep.node(0, node, other, -1), GameRows.DEEP);
        check.same("depth 9 by b", deep.node(0, other, node, -1), GameRows.DEEP);
        check.same("depth 9 by c", deep.node(1, other, third, node), GameRows.DEEP);
        check.same("nothing came of it", deep.count(0), before);

        for (int player = 0; player < 2; player++) {
            GameRows g = new GameRows();
            int top = g.end(0, 0);
            for (int s = 0; s < 6; s++) {
                g.set(player, 2);
                top = Games.above(g, s, 2, top);
                check.same("plans", g.count(3 + player), 2 << s);
                check.same("the other one has one", g.count(4 - player), 1);
            }
            g.set(player, 2);
            g.set(1 - player, 3);
            int second = g.end(0, 0);
            int nodes = g.count(0);
            check.same("128 plans", g.node(6, top, second, -1), GameRows.WRONG);
            check.same("nothing came of it", g.count(0), nodes);
            check.same("a set that is in it already", g.node(5, top, second, -1), nodes);
            check.same("64 still", g.count(3 + player), 64);
            check.same("a set of the other one", Games.above(g, 7, 3, nodes), nodes + 3);
            check.same("64 and", g.count(3 + player), 64);
            check.same("3", g.count(4 - player), 3);
        }

        GameRows three = new GameRows();
        int top = three.end(0, 0);
        for (int s = 0; s < 4; s++) {
            three.set(1, 3);
        }
        three.set(1, 2);
        for (int s = 0; s < 3; s++) {
            top = Games.above(three, s, 3, top);
        }
        int second = three.end(0, 0);
        int third2 = three.end(0, 0);
        check.same("81 plans", three.node(3, top, second, third2), GameRows.WRONG);
        check.same("54 plans", three.node(4, top, second, -1), third2 + 1);
        check.same("54", three.count(4), 54);
    }

    private static void orderOfRefusals() {
        // A tree of DEPTH 8 with 5 CHANCES on a way and 64 PLANS.
        GameRows g = new GameRows();
        for (int s = 0; s < 8; s++) {
            g.set(0, 2);
        }
        int top = g.end(0, 0);
        for (int s = 0; s < 3; s++) {
            int inner = Games.above(g, 2 * s, 2, g.end(0, 0));
            int outer = Games.above(g, 2 * s + 1, 2, g.end(0, 0));
            top = g.chance(top, inner, outer);
        }
        top = g.chance(top, -1, -1);
        top = g.chance(top, -1, -1);
        for (int i = 0; i < 2; i++) {
            top = Games.above(g, 0, 2, top);
        }
        check.same("depth", g.count(9), 8);
        check.same("plans", g.count(3), 64);
        int spare = g.end(0, 0);
        check.same("DEEP before WRONG, node", g.node(6, top, spare, -1), GameRows.DEEP);
        check.same("TAKEN before DEEP, node", g.node(6, top, top, -1), GameRows.TAKEN);
        check.same("TAKEN before DEEP, chance", g.chance(top, 0, -1), GameRows.TAKEN);
        check.same("BAD before TAKEN, node", g.node(8, top, top, -1), GameRows.BAD);
        check.same("BAD before TAKEN, chance", g.chance(top, top, 40), GameRows.BAD);
        check.same("DEEP, chance", g.chance(top, spare, -1), GameRows.DEEP);
        for (int i = 0; g.count(0) < 40 && i < 40; i++) {
            g.end(1, 1);
        }
        check.same("40 nodes", g.count(0), 40);
        check.same("FULL before DEEP, node", g.node(6, top, spare, -1), GameRows.FULL);
        check.same("FULL before TAKEN, node", g.node(6, top, top, -1), GameRows.FULL);
        check.same("FULL before TAKEN, chance", g.chance(0, 0, -1), GameRows.FULL);
        check.same("FULL, chance", g.chance(39, -1, -1), GameRows.FULL);
        check.same("FULL, node", g.node(0, 39, 38, -1), GameRows.FULL);
        check.same("BAD before FULL, node's set", g.node(8, 38, 39, -1), GameRows.BAD);
        check.same("BAD before FULL, node's child", g.node(0, 38, 40, -1), GameRows.BAD);
        check.same("BAD before FULL, chance", g.chance(38, 40, -1), GameRows.BAD);
        check.same("nothing came of it", g.count(0), 40);

        // TAKEN before WRONG: 3 and 4 SETS, the first one with a parent.
        GameRows w = new GameRows();
        int[] tops = {-1, -1};
        int set = 0;
        for (int part = 0; part < 2; part++) {
            tops[part] = w.end(0, 0);
            for (int i = 0; i < 3 + part; i++) {
                w.set(1, 2);
                tops[part] = Games.above(w, set++, 2, tops[part]);
            }
        }
        check.same("WRONG", w.chance(tops[0], tops[1], -1), GameRows.WRONG);
        w.chance(tops[0], -1, -1);
        check.same("TAKEN before WRONG", w.chance(tops[0], tops[1], -1), GameRows.TAKEN);
    }

    private static void count() {
        GameRows g = Games.entry();
        int[] due = {5, 2, 5, 2, 2, 2, 1, 2, 4, 2};
        for (int what = 0; what <= 9; what++) {
            check.same("entry count " + what, g.count(what), due[what]);
        }
        for (int what : new int[] {-1, 10, MIN, MAX}) {
            check.same("count " + what, g.count(what), GameRows.BAD);
        }
        GameRows wide = Games.widest();
        check.same("widest nodes", wide.count(0), 36);
        check.same("widest sets", wide.count(1), 10);
        check.same("widest tree", wide.count(2), 36);
        check.same("widest depth", wide.count(9), 8);
        check.same("widest plans of 0", wide.count(3), 64);
        check.same("widest plans of 1", wide.count(4), 54);
        check.same("widest games within", wide.count(7), 11);
        for (int what = 0; what <= 9; what++) {
            check.same("as the first question, count " + what, Games.entry().count(what), due[what]);
        }
        GameRows pennies = Games.pennies();
        check.same("pennies points", pennies.count(5), 0);
        check.same("pennies perfect points", pennies.count(6), 0);
        check.same("pennies games within", pennies.count(7), 1);
        check.same("pennies pairs left", pennies.count(8), 4);
    }

    private static void countOfTree() {
        // What is put in last is THE ROOT, even if it is an END.
        GameRows g = Games.entry();
        g.end(7, 8);
        int[] due = {6, 2, 1, 1, 1, 1, 1, 1, 1, 0};
        for (int what = 0; what <= 9; what++) {
            check.same("an end at last, count " + what, g.count(what), due[what]);
        }
        check.same("its worth", g.worth(0, 0, 1), 8 * 7776);
        check.same("plan 1 is no more", g.worth(1, 0, 1), GameRows.EMPTY);
        check.same("the tree is put together", g.chance(4, 5, -1), 6);
        int[] dueThen = {7, 2, 7, 2, 2, 2, 1, 3, 4, 3};
        for (int what = 0; what <= 9; what++) {
            check.same("a chance over both, count " + what, g.count(what), dueThen[what]);
        }
    }

    private static void told() {
        GameRows g = new GameRows();
        g.set(0, 3);
        g.set(1, 2);
        g.end(-7, 9);
        g.end(100, -100);
        g.end(0, 0);
        g.end(5, 6);
        g.node(1, 1, 0, 3);
        g.chance(3, 2, -1);
        g.end(1, 2);
        g.node(0, 5, 6, 4);
        g.chance(7, -1, -1);
        int[][] due = {
            {0, -7, 4, 9, -1, -1},
            {0, 100, 4, -100, -1, -1},
            {0, 0, 5, 0, -1, -1},
            {0, 5, 5, 6, -1, -1},
            {2, 1, 7, 1, 0, -1},
            {1, -1, 7, 3, 2, -1},
            {0, 1, 7, 2, -1, -1},
            {2, 0, 8, 5, 6, 4},
            {1, -1, -1, 7, -1, -1}};
        for (int n = 0; n < due.length; n++) {
            for (int what = 0; what <= 5; what++) {
                check.same("told " + n + " " + what, g.told(n, what), due[n][what]);
            }
        }
        int[][] bad = {{-1, 0}, {9, 0}, {0, -1}, {0, 6}, {MAX, 0}, {MIN, 0}, {0, MAX}, {0, MIN}, {40, 0}};
        for (int[] b : bad) {
            check.same("told " + b[0] + " " + b[1], g.told(b[0], b[1]), GameRows.EMPTY);
        }
        g.end(0, 0);
        check.same("a node that is not in the tree", g.told(7, 4), 6);
    }
}
