/** Promise 2: clear. */
public final class Promise02ClearTest extends Promises {
    public static void main(String[] args) {
        start("Promise 2: clear");
        howMany();
        noNodes();
        noSets();
        allAgain();
        nothingOld();
        endsWhereOthersWere();
        close();
    }

    private static void howMany() {
        sentence("how many NODES there were.");
        due("a new object", new GameRows(), clear(), 0);
        due("sets alone", Games.setsAlone(), clear(), 0);
        due("one", Games.ends(1), clear(), 1);
        due("39", Games.ends(39), clear(), 39);
        due("40", Games.ends(40), clear(), 40);
        due("40 of all sorts", Games.fullest(1), clear(), 40);
        due("a refused end", Games.endRefused(), clear(), 0);
        GameRows g = Games.entry();
        g.end(0, 0);
        g.chance(5, 5, -1);
        due("those that are not in the tree count, refused ones do not", g, clear(), 6);
        due("none any more", g, clear(), 0);
    }

    private static void noNodes() {
        sentence("No NODES, no SETS any more");
        alike("cleared", Games::cleared, GameRows::new);
        alike("cleared twice", () -> {
            GameRows g = Games.cleared();
            g.clear();
            return g;
        }, GameRows::new);
        GameRows g = Games.entry();
        g.clear();
        due(g, count(0), 0);
        due(g, count(2), 0);
        due(g, count(3), EMPTY);
        due(g, told(0, 0), EMPTY);
        due(g, chance(0, -1, -1), BAD);
    }

    private static void noSets() {
        sentence("no SETS any more");
        GameRows g = Games.setsAlone();
        g.clear();
        due(g, count(1), 0);
        g.end(0, 0);
        g.end(0, 0);
        due(g, node(0, 0, 1, -1), BAD);
        due(g, act(0, 0, 0), BAD);
        due(g, set(0, 2), 0);
    }

    private static void allAgain() {
        sentence("No NODES, no SETS any more");
        GameRows g = Games.fullest(0);
        g.clear();
        for (int s = 0; s < 10; s++) {
            due(g, set(1, 3), s);
        }
        due(g, set(1, 3), FULL);
        for (int n = 0; n < 40; n++) {
            due(g, end(n, n), n);
        }
        due(g, end(0, 0), FULL);
    }

    /** The same numbers in another game: nothing of the old one may be left. */
    private static void nothingOld() {
        sentence("No NODES, no SETS any more");
        alike("another game behind it", () -> mirrored(Games.cleared()), () -> mirrored(new GameRows()));
        alike("another game of as many nodes", () -> {
            GameRows g = Games.entry();
            g.count(5);
            g.count(6);
            g.goes(0, 0);
            g.bound(200, 0);
            g.clear();
            return mirrored(g);
        }, () -> mirrored(new GameRows()));
        GameRows g = mirrored(Games.cleared());
        due(g, told(0, 2), 4);
        due(g, told(4, 2), NONE);
        due(g, told(0, 4), NONE);
        due(g, point(false, 1), 64);
        due(g, goes(1, 1), 1);
    }

    /** What lay below the NODES that had these numbers does not lie below the new ones. */
    private static void endsWhereOthersWere() {
        sentence("No NODES, no SETS any more");
        GameRows five = Games.ends(1);
        Games.chancesAbove(five, 5, 0);
        GameRows deep = Games.deep(8);
        GameRows wide = Games.six(0);
        for (GameRows g : new GameRows[] {five, deep, wide}) {
            int before = g.count(0);
            due(g, clear(), before);
            for (int n = 0; n < before; n++) {
                due(g, end(0, 0), n);
            }
            for (int s = 0; s < 7; s++) {
                g.set(0, 2);
            }
            due("over the last one", g, chance(before - 1, -1, -1), before);
            due("over the last one", g, count(2), 2);
            due("over the last one", g, count(3), 1);
            due("over the last one", g, count(9), 1);
            due("over the first ones", g, node(6, 0, 1, -1), before + 1);
            due("over the first ones", g, count(3), 2);
            due("over both", g, node(5, before, before + 1, -1), before + 2);
            due("over both", g, within(1), before + 2);
            due("over both", g, remembered(0), 1);
        }
    }

    /** As Games.entry(), with PLAYERS changed: 0 and 64 are POINTS, PLAYER 1'S PLAN 1 is WORSE than 0. */
    private static GameRows mirrored(GameRows g) {
        g.set(1, 2);
        g.set(0, 2);
        g.end(0, 2);
        g.end(5, -1);
        g.end(1, 1);
        g.node(1, 1, 2, -1);
        g.node(0, 0, 3, -1);
        return g;
    }
}
