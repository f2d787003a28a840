import java.lang.management.ManagementFactory;

/** What objects and calls take: rows are made by the constructor alone, and the dearest games end soon. */
public final class RoomTest {
    // 7.3 million elements for a run; were each of 512 calls a new object, so many bytes each would be left.
    private static final long MOST_BYTES_MADE = 57_000;
    private static final Check check = new Check("RoomTest");
    private static final com.sun.management.ThreadMXBean BEAN =
        (com.sun.management.ThreadMXBean) ManagementFactory.getThreadMXBean();

    public static void main(String[] args) {
        GameRows warm = Games.widest();
        askAll(warm);
        dearestAgree(warm);

        long before = bytes();
        GameRows g = new GameRows();
        check.holds("the constructor takes little", bytes() - before < MOST_BYTES_MADE);
        g.end(0, 0);

        GameRows wide = Games.widest();
        long start = bytes();
        long sum = 0;
        for (int i = 0; i < 100; i++) {
            sum += askAll(wide);
        }
        long used = bytes() - start;
        check.holds("1400 calls make nothing, not " + used + " bytes (" + sum + ")", used < 2000);
        check.close();
    }

    private static long bytes() {
        return BEAN.getThreadAllocatedBytes(Thread.currentThread().getId());
    }

    private static long askAll(GameRows g) {
        long sum = g.set(0, 7) + g.end(101, 0) + g.chance(0, 0, 0) + g.node(0, 1, 1, 1);
        for (int what = 0; what < 10; what++) {
            sum += g.count(what);
        }
        sum += g.told(1, 1) + g.act(0, 1, 2) + g.worth(1, 1, 1) + g.answer(0, 1) + g.point(true, 1) + g.point(false, 1);
        sum += g.within(3) + g.than(1, 2, 0) + g.than(1, 2, 1) + g.than(1, 2, 2) + g.goes(1, 3) + g.sure(1);
        return sum + g.remembered(0) + g.taken(200, 0, 3) + g.bound(200, 0) + g.bound(200, 1);
    }

    /** The widest game once more in PlainGame: 3456 pairs, 11 GAMES WITHIN. */
    private static void dearestAgree(GameRows g) {
        PlainGame p = new PlainGame();
        for (int s = 0; s < 10; s++) {
            p.set(s < 6 ? 0 : 1, s < 7 ? 2 : 3);
        }
        for (int n = 0; n < g.count(0); n++) {
            copyNode(g, p, n);
        }
        for (int what = 0; what < 10; what++) {
            check.same("widest count " + what, g.count(what), p.count(what));
        }
        for (int plan = 0; plan < 54; plan++) {
            check.same("widest goes " + plan, g.goes(1, plan), p.goes(1, plan));
            check.same("widest taken " + plan, g.taken(200, 1, plan), p.taken(200, 1, plan));
            check.same("widest weakly " + plan, g.than(0, plan, 1), p.than(0, plan, 1));
            check.same("widest one " + plan, g.than(0, plan, 2), p.than(0, plan, 2));
            check.same("widest worth " + plan, g.worth(plan, plan, 0), p.worth(plan, plan, 0));
        }
        check.same("widest low", g.bound(200, 0), p.bound(200, 0));
        check.same("widest high", g.bound(200, 1), p.bound(200, 1));
        check.same("widest perfect point", g.point(true, 0), p.point(true, 0));
    }

    private static void copyNode(GameRows g, PlainGame p, int n) {
        if (g.told(n, 0) == 0) {
            p.end(g.told(n, 1), g.told(n, 3));
        } else if (g.told(n, 0) == 1) {
            p.chance(g.told(n, 3), g.told(n, 4), g.told(n, 5));
        } else {
            p.node(g.told(n, 1), g.told(n, 3), g.told(n, 4), g.told(n, 5));
        }
    }
}
