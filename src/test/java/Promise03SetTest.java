import java.util.ArrayList;
import java.util.List;

/** Promise 3: set. */
public final class Promise03SetTest extends Promises {
    public static void main(String[] args) {
        start("Promise 3: set");
        itsNumber();
        players();
        acts();
        full();
        badBeforeFull();
        withoutNodesAndWithAll();
        notInIt();
        close();
    }

    private static void itsNumber() {
        sentence("A SET more: its number.");
        GameRows g = new GameRows();
        for (int s = 0; s < 10; s++) {
            due(g, set(s % 2, 2 + s % 2), s);
            due(g, count(1), s + 1);
        }
    }

    private static void players() {
        sentence("SETS 0 .. 9 have a PLAYER");
        for (int player = 0; player < 2; player++) {
            GameRows g = new GameRows();
            due(g, set(player, 2), 0);
            g.node(0, g.end(0, 0), g.end(0, 0), -1);
            due(g, count(3 + player), 2);
            due(g, count(4 - player), 1);
        }
        List<Call> calls = new ArrayList<>();
        for (int player : outOf(0, 1)) {
            calls.add(set(player, 2));
            calls.add(set(player, 3));
        }
        refused(GameRows::new, BAD, calls);
        refused(Games::entry, BAD, calls);
    }

    private static void acts() {
        sentence("and 2 or 3 ACTS");
        for (int acts = 2; acts <= 3; acts++) {
            GameRows g = new GameRows();
            due(g, set(0, acts), 0);
            g.node(0, g.end(0, 0), g.end(0, 0), g.end(0, 0));
            due(g, count(3), acts);
        }
        List<Call> calls = new ArrayList<>();
        for (int acts : outOf(2, 3)) {
            calls.add(set(0, acts));
            calls.add(set(1, acts));
        }
        calls.add(set(0, 0));
        calls.add(set(1, -2));
        calls.add(set(2, 4));
        refused(GameRows::new, BAD, calls);
        refused(Games::entry, BAD, calls);
    }

    private static void full() {
        sentence("SETS 0 .. 9");
        GameRows g = new GameRows();
        for (int s = 0; s < 9; s++) {
            g.set(1, 2);
        }
        due(g, set(1, 2), 9);
        refused(Games::setsAlone, FULL, set(0, 2), set(0, 3), set(1, 2), set(1, 3));
        refused(() -> Games.fullest(0), FULL, set(0, 2), set(1, 3));
        GameRows again = Games.setsAlone();
        again.clear();
        due("behind clear", again, set(0, 2), 0);
    }

    private static void badBeforeFull() {
        sentence("BAD (a number is none, or out of its bounds) first");
        refused(Games::setsAlone, BAD, set(-1, 2), set(2, 2), set(0, 1), set(0, 4), set(MAX, 3), set(1, MIN));
    }

    private static void withoutNodesAndWithAll() {
        sentence("What needs THE TREE is EMPTY without NODES");
        due("a set needs no tree", new GameRows(), set(0, 2), 0);
        due("nor does a bad one", new GameRows(), set(2, 2), BAD);
        due("nor one too many", Games.setsAlone(), set(0, 2), FULL);
        due("all nodes are there", Games.ends(40), set(0, 2), 0);
    }

    private static void notInIt() {
        sentence("SETS that have a NODE in THE TREE are IN IT.");
        GameRows g = Games.entry();
        due(g, set(0, 3), 2);
        due(g, count(3), 2);
        due(g, count(7), 2);
        due(g, point(true, 0), 65);
        due(g, act(0, 1, 2), NONE);
    }
}
