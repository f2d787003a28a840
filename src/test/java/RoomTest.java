import java.lang.management.ManagementFactory;

/** What objects and calls take: rows are made by the constructor alone, and the fullest games agree with PlainGame. */
public final class RoomTest {
    // 7.3 million elements for a run; were each of 512 calls a new object, so many bytes each would be left.
    private static final long MOST_BYTES_MADE = 57_000;
    private static final int ROUNDS = 13;
    private static final Check check = new Check("RoomTest");
    private static final com.sun.management.ThreadMXBean BEAN =
        (com.sun.management.ThreadMXBean) ManagementFactory.getThreadMXBean();

    public static void main(String[] args) {
        for (int i = 0; i < 100; i++) {
            askAll(Games.fullest(i % 2));
        }
        objectTakesLittle();
        callsMakeNothing();
        fullestAgree(0);
        fullestAgree(1);
        check.close();
    }

    private static long bytes() {
        return BEAN.getThreadAllocatedBytes(Thread.currentThread().getId());
    }

    private static void objectTakesLittle() {
        long before = bytes();
        GameRows g = new GameRows();
        long used = bytes() - before;
        check.holds("the constructor takes little, not " + used + " bytes", used < MOST_BYTES_MADE);
        g.end(0, 0);
    }

    private static void callsMakeNothing() {
        GameRows g = Games.fullest(0);
        long before = bytes();
        long sum = 0;
        for (int i = 0; i < ROUNDS; i++) {
            sum += askAll(g);
        }
        long used = bytes() - before;
        check.holds("calls make nothing, not " + used + " bytes (" + sum + ")", used < 2000);
    }

    private static long askAll(GameRows g) {
        long sum = g.set(0, 7) + g.end(101, 0) + g.chance(0, 0, 0) + g.node(0, 1, 1, 1);
        for (int what = 0; what < 10; what++) {
            sum += g.count(what);
        }
        sum += g.told(1, 1) + g.act(0, 1, 2) + g.worth(1, 1, 1) + g.answer(0, 1) + g.point(true, 1) + g.point(false, 1);
        sum += g.within(3) + g.than(1, 2, 0) + g.than(1, 2, 1) + g.than(1, 2, 2) + g.goes(1, 3) + g.sure(1);
        return sum + g.remembered(0) + g.taken(200, 0, 3) + g.bound(200, 0) + g.bound(200, 1);
    }

    /** 3456 pairs, 10 GAMES WITHIN. */
    private static void fullestAgree(int most) {
        GameRows told = Games.fullest(most);
        PlainGame p = new PlainGame();
        for (int s = 0; s < 10; s++) {
            p.set(s < 6 ? most : 1 - most, s < 7 ? 2 : 3);
        }
        for (int n = 0; n < 40; n++) {
            copyNode(told, p, n);
        }
        GameRows g = Games.fullest(most);
        for (int what = 0; what < 10; what++) {
            check.same("fullest count " + what, g.count(what), p.count(what));
        }
        for (int plan = 0; plan < 54; plan++) {
            check.same("fullest goes " + plan, g.goes(1, plan), p.goes(1, plan));
            check.same("fullest taken " + plan, g.taken(200, 1, plan), p.taken(200, 1, plan));
            check.same("fullest weakly " + plan, g.than(0, plan, 1), p.than(0, plan, 1));
            check.same("fullest one " + plan, g.than(0, plan, 2), p.than(0, plan, 2));
            check.same("fullest worth " + plan, g.worth(plan, plan, 0), p.worth(plan, plan, 0));
            check.same("fullest answer " + plan, g.answer(0, plan), p.answer(0, plan));
        }
        check.same("fullest low", g.bound(200, 0), p.bound(200, 0));
        check.same("fullest high", g.bound(200, 1), p.bound(200, 1));
        check.same("fullest perfect point", g.point(true, 0), p.point(true, 0));
    }

    private static void copyNode(GameRows g, PlainGame p, int n) {
        if (g.told(n, 0) == 0) {
            p.end(g.told(n, 1), g.told(n, 3));
        } else if (g.told(n, 0) == 1) {
            p.chance(g.told(n, 3), g.told(n, 4), g.told(n, 5));
        } else {
            p.node(g.told(n, 1), g.told(n, 3), g.told(n, 4), g.told(n, 5));
        }
    }
}
