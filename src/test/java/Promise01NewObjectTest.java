/** Promise 1: A new object. */
public final class Promise01NewObjectTest extends Promises {
    public static void main(String[] args) {
        start("Promise 1: A new object");
        noNodes();
        noSets();
        noneButItsOwn();
        callsTo512();
        treesTo512();
        refusalsTo512();
        close();
    }

    private static void noNodes() {
        sentence("No NODES");
        GameRows g = new GameRows();
        due(g, count(0), 0);
        due(g, count(2), 0);
        due(g, told(0, 0), EMPTY);
        due(g, count(9), EMPTY);
        due(g, chance(0, -1, -1), BAD);
        due(new GameRows(), clear(), 0);
        due(new GameRows(), end(0, 0), 0);
    }

    private static void noSets() {
        sentence("no SETS.");
        GameRows g = new GameRows();
        due(g, count(1), 0);
        g.end(0, 0);
        g.end(0, 0);
        due(g, node(0, 0, 1, -1), BAD);
        due(new GameRows(), set(1, 3), 0);
    }

    private static void noneButItsOwn() {
        sentence("No NODES, no SETS.");
        alike("a new object beside a full one", () -> {
            Games.fullest(0).count(6);
            return new GameRows();
        }, GameRows::new);
        GameRows one = Games.entry();
        GameRows other = Games.pennies();
        due("two in turns", one, count(5), 2);
        due("two in turns", other, count(5), 0);
        other.clear();
        due("two in turns", one, point(true, 0), 65);
        due("two in turns", one, count(1), 2);
    }

    private static void callsTo512() {
        sentence("An object is used for at most 512 calls");
        GameRows g = new GameRows();
        for (int call = 0; call < 512; call++) {
            due("call " + (call + 1), g, call % 41 == 40 ? clear() : end(0, 0), call % 41);
        }
    }

    /** Each game is a new one, and asked for all that is worked out and kept. */
    private static void treesTo512() {
        sentence("An object is used for at most 512 calls");
        GameRows g = new GameRows();
        for (int i = 0; i < 64; i++) {
            due(g, end(i, -i), 0);
            due(g, point(true, 0), 0);
            due(g, point(false, 0), 0);
            due(g, worth(0, 0, 0), i * PARTS);
            due(g, goes(0, 0), NONE);
            due(g, bound(200, 1), 200 * i * PARTS);
            due(g, taken(3, 1, 0), 3);
            due(g, clear(), 1);
        }
    }

    private static void refusalsTo512() {
        sentence("An object is used for at most 512 calls");
        GameRows g = Games.entry();
        for (int call = 8; call < 512; call++) {
            due("call " + call, g, worth(2, 0, 0), EMPTY);
        }
        due("call 512", g, point(true, 0), 65);
    }
}
