import java.util.ArrayList;
import java.util.List;

/** Promise 4: end. */
public final class Promise04EndTest extends Promises {
    public static void main(String[] args) {
        start("Promise 4: end");
        itsNumber();
        worths();
        full();
        badBeforeFull();
        isRoot();
        close();
    }

    private static void itsNumber() {
        sentence("An END: its number.");
        GameRows g = new GameRows();
        for (int n = 0; n < 40; n++) {
            due(g, end(n, -n), n);
            due(g, count(0), n + 1);
        }
        due("behind other nodes", Games.entry(), end(0, 0), 5);
    }

    private static void worths() {
        sentence("an END with a WORTH for each PLAYER 0 and 1 (-100 .. 100)");
        for (int[] worths : new int[][] {{-100, 100}, {100, -100}, {-100, -100}, {100, 100}, {0, 0}, {-1, 1}, {99, -99}}) {
            GameRows g = new GameRows();
            due(g, end(worths[0], worths[1]), 0);
            due(g, told(0, 1), worths[0]);
            due(g, told(0, 3), worths[1]);
        }
        List<Call> calls = new ArrayList<>();
        for (int worth : outOf(-100, 100)) {
            calls.add(end(worth, 0));
            calls.add(end(0, worth));
            calls.add(end(worth, worth));
            calls.add(end(worth, 100));
            calls.add(end(-100, worth));
        }
        refused(GameRows::new, BAD, calls);
        refused(Games::entry, BAD, calls);
    }

    private static void full() {
        sentence("FULL: 40 NODES.");
        due("39 nodes", Games.ends(39), end(0, 0), 39);
        refused(() -> Games.ends(40), FULL, end(0, 0), end(100, -100), end(-100, 100));
        refused(() -> Games.fullest(0), FULL, end(0, 0), end(1, 1));
        GameRows g = Games.ends(40);
        g.clear();
        due("behind clear", g, end(0, 0), 0);
    }

    private static void badBeforeFull() {
        sentence("BAD (a number is none, or out of its bounds) first");
        refused(() -> Games.ends(40), BAD, end(-101, 0), end(101, 0), end(0, -101), end(0, 101), end(MIN, MAX));
    }

    private static void isRoot() {
        sentence("THE TREE is that of its ROOT: the NODE that was put in last");
        GameRows g = Games.fullest(0);
        g.clear();
        g.end(-100, 100);
        due("one", g, worth(0, 0, 0), -777600);
        g.end(100, -100);
        due("the second one", g, worth(0, 0, 0), 777600);
        due("the second one", g, count(2), 1);
        due("the second one", g, count(9), 0);
        GameRows entry = Games.entry();
        entry.end(7, 8);
        due("over a game", entry, count(3), 1);
        due("over a game", entry, worth(0, 0, 1), 8 * PARTS);
        due("no sets are in it", entry, act(0, 0, 0), NONE);
    }
}
