import java.util.ArrayList;
import java.util.Collections;
import java.util.List;
import java.util.Random;
import java.util.function.Supplier;
import java.util.function.ToIntFunction;

/** Runs of calls by fixed seeds, each answer held against PlainGame: all promises, good and bad numbers. */
public final class RandomRunsTest {
    private static final Check check = new Check("RandomRunsTest");
    private static final int[] ODD = {-1, -2, 64, 40, 10, 201, Integer.MAX_VALUE, Integer.MIN_VALUE};
    private static final int[] refused = new int[7];
    private static final int[] met = new int[6];

    public static void main(String[] args) {
        for (int seed = 0; seed < 150; seed++) {
            run(seed, 512);
        }
        for (int seed = 0; seed < 400; seed++) {
            builtGame(seed);
        }
        for (int r = 2; r < 7; r++) {
            check.holds("the runs meet refusal " + -r, refused[r] > 0);
        }
        for (int i = 0; i < met.length; i++) {
            check.holds("some ten games meet " + i + ": " + met[i], met[i] >= 10);
        }
        check.close();
    }

    /** Anything in any order; how many CHILDREN are taken, and how far worths reach, changes with the seed. */
    private static void run(int seed, int calls) {
        Random random = new Random(seed);
        GameRows g = new GameRows();
        PlainGame p = new PlainGame();
        int worths = seed % 3 == 0 ? 2 : 100;
        for (int i = 0; i < calls; i++) {
            if (random.nextInt(3) > 0) {
                build(random, g, p, worths, "seed " + seed + " call " + i);
            } else {
                ask(random, g, p, "seed " + seed + " call " + i);
            }
        }
    }

    private static void same(String what, int got, int due) {
        check.same(what, got, due);
        if (due <= -2 && due >= -6) {
            refused[-due]++;
        }
    }

    private static void build(Random random, GameRows g, PlainGame p, int worths, String at) {
        int nodes = p.count(0);
        int kind = random.nextInt(100);
        if (kind < 2) {
            same(at + " clear", g.clear(), p.clear());
        } else if (kind < 12) {
            int player = odd(random, 2);
            int acts = random.nextInt(20) == 0 ? random.nextInt(6) : 2 + random.nextInt(2);
            same(at + " set", g.set(player, acts), p.set(player, acts));
        } else if (kind < 50) {
            int a = random.nextInt(60) == 0 ? 101 : random.nextInt(2 * worths + 1) - worths;
            int b = random.nextInt(60) == 0 ? -101 : random.nextInt(2 * worths + 1) - worths;
            same(at + " end", g.end(a, b), p.end(a, b));
        } else {
            int a = free(random, p, nodes);
            int b = free(random, p, nodes);
            int c = free(random, p, nodes);
            if (kind < 70) {
                int size = random.nextInt(3);
                b = size == 0 ? -1 : b;
                c = size < 2 ? -1 : c;
                same(at + " chance " + a + " " + b + " " + c, g.chance(a, b, c), p.chance(a, b, c));
            } else {
                int set = odd(random, Math.max(1, p.count(1)));
                same(at + " node " + set, g.node(set, a, b, c), p.node(set, a, b, c));
            }
        }
    }

    /** Mostly a NODE without a parent, the late ones more often, so that trees grow high. */
    private static int free(Random random, PlainGame p, int nodes) {
        if (nodes == 0 || random.nextInt(25) == 0) {
            return odd(random, Math.max(1, nodes));
        }
        int from = random.nextBoolean() ? nodes - 1 : random.nextInt(nodes);
        for (int n = from; n >= 0; n--) {
            if (p.told(n, 2) == -1 && random.nextInt(5) > 0) {
                return n;
            }
        }
        return from;
    }

    private static int odd(Random random, int below) {
        return random.nextInt(25) == 0 ? ODD[random.nextInt(ODD.length)] : random.nextInt(below);
    }

    private static void ask(Random random, GameRows g, PlainGame p, String at) {
        int plans0 = Math.max(1, p.count(3));
        int plans1 = Math.max(1, p.count(4));
        int player = odd(random, 2);
        int own = odd(random, player == 1 ? plans1 : plans0);
        int other = odd(random, player == 1 ? plans0 : plans1);
        int rounds = random.nextInt(6) == 0 ? odd(random, 203) : odd(random, 30);
        int what = random.nextInt(3);
        switch (random.nextInt(13)) {
            case 0:
                int counted = odd(random, 10);
                same(at + " count " + counted, g.count(counted), p.count(counted));
                break;
            case 1:
                int node = odd(random, Math.max(1, p.count(0)));
                int told = odd(random, 6);
                same(at + " told", g.told(node, told), p.told(node, told));
                break;
            case 2:
                int set = odd(random, Math.max(1, p.count(1)));
                same(at + " act", g.act(player, own, set), p.act(player, own, set));
                break;
            case 3:
                int plan0 = player == 0 ? own : other;
                int plan1 = player == 0 ? other : own;
                same(at + " worth", g.worth(plan0, plan1, player), p.worth(plan0, plan1, player));
                break;
            case 4:
                same(at + " answer", g.answer(player, other), p.answer(player, other));
                break;
            case 5:
                boolean perfect = random.nextBoolean();
                int k = odd(random, 5);
                same(at + " point", g.point(perfect, k), p.point(perfect, k));
                break;
            case 6:
                int w = odd(random, 5);
                same(at + " within", g.within(w), p.within(w));
                break;
            case 7:
                int sort = odd(random, 3);
                same(at + " than", g.than(player, own, sort), p.than(player, own, sort));
                break;
            case 8:
                same(at + " goes", g.goes(player, own), p.goes(player, own));
                break;
            case 9:
                same(at + " sure", g.sure(player), p.sure(player));
                break;
            case 10:
                same(at + " remembered", g.remembered(player), p.remembered(player));
                break;
            case 11:
                same(at + " taken", g.taken(rounds, player, own), p.taken(rounds, player, own));
                break;
            default:
                same(at + " bound", g.bound(rounds, what), p.bound(rounds, what));
                break;
        }
    }

    /** A game of some height, put in by chance, and then asked for everything. */
    private static void builtGame(int seed) {
        Random random = new Random(1000 + seed);
        List<ToIntFunction<GameRows>> made = new ArrayList<>();
        PlainGame p = new PlainGame();
        int sets = 2 + random.nextInt(9);
        for (int s = 0; s < sets; s++) {
            int player = s < 2 ? s : random.nextInt(2);
            int acts = 2 + (random.nextInt(3) == 0 ? 1 : 0);
            made.add(g -> g.set(player, acts));
            p.set(player, acts);
        }
        int worths = seed % 2 == 0 ? 2 : 30;
        int ends = 6 + random.nextInt(19);
        for (int i = 0; i < ends; i++) {
            int a = random.nextInt(2 * worths + 1) - worths;
            int b = seed % 4 < 2 ? -a : random.nextInt(2 * worths + 1) - worths;
            made.add(g -> g.end(a, b));
            p.end(a, b);
        }
        GameRows first = put(made);
        for (int i = 0; i < 200; i++) {
            joinSome(random, first, p, made, "game " + seed + " call " + i);
        }
        check.holds("game " + seed + " has no end at last", p.told(p.count(0) - 1, 0) != 0);
        for (int i = 0; i < 6; i++) {
            met[i] += isMet(i, p) ? 1 : 0;
        }
        askAll(() -> put(made), p, "game " + seed);
    }

    private static GameRows put(List<ToIntFunction<GameRows>> made) {
        GameRows g = new GameRows();
        for (ToIntFunction<GameRows> call : made) {
            call.applyAsInt(g);
        }
        return g;
    }

    /** One to three of the NODES without a parent below a new one, if they are not refused. */
    private static void joinSome(Random random, GameRows g, PlainGame p, List<ToIntFunction<GameRows>> made, String at) {
        List<Integer> free = new ArrayList<>();
        for (int n = 0; n < p.count(0); n++) {
            if (p.told(n, 2) == -1) {
                free.add(n);
            }
        }
        Collections.shuffle(free, random);
        int a = free.get(0);
        int b = free.size() > 1 ? free.get(1) : -1;
        int third = free.size() > 2 ? free.get(2) : -1;
        int nodes = p.count(0);
        ToIntFunction<GameRows> call;
        if (random.nextInt(5) == 0) {
            int c = random.nextBoolean() ? -1 : third;
            call = h -> h.chance(a, b, c);
            same(at + " chance", call.applyAsInt(g), p.chance(a, b, c));
        } else {
            int set = random.nextInt(p.count(1));
            call = h -> h.node(set, a, b, third);
            same(at + " node", call.applyAsInt(g), p.node(set, a, b, third));
        }
        if (p.count(0) > nodes) {
            made.add(call);
        }
    }

    /** What the games must not all be without, else the runs would show little. */
    private static boolean isMet(int i, PlainGame p) {
        switch (i) {
            case 0:
                return p.count(6) > 0 && p.count(6) < p.count(5);
            case 1:
                return p.count(7) > 2;
            case 2:
                return p.count(8) < p.count(3) * p.count(4) / 2;
            case 3:
                return p.remembered(0) == 0 && p.remembered(1) == 1;
            case 4:
                return p.count(3) * p.count(4) >= 200;
            default:
                return p.count(9) >= 6;
        }
    }

    /** A new object for each part: one is used for 512 calls at most. */
    private static void askAll(Supplier<GameRows> made, PlainGame p, String at) {
        GameRows g = made.get();
        for (int what = 0; what <= 9; what++) {
            same(at + " count " + what, g.count(what), p.count(what));
        }
        for (int k = 0; k < 4; k++) {
            same(at + " point " + k, g.point(false, k), p.point(false, k));
            same(at + " perfect point " + k, g.point(true, k), p.point(true, k));
            same(at + " within " + k, g.within(k), p.within(k));
        }
        for (int rounds : new int[] {1, 2, 3, 200, 17}) {
            same(at + " low " + rounds, g.bound(rounds, 0), p.bound(rounds, 0));
            same(at + " high " + rounds, g.bound(rounds, 1), p.bound(rounds, 1));
        }
        for (int player = 0; player < 2; player++) {
            askPlans(made.get(), p, player, at);
        }
    }

    private static void askPlans(GameRows g, PlainGame p, int player, String at) {
        same(at + " sure " + player, g.sure(player), p.sure(player));
        same(at + " remembered " + player, g.remembered(player), p.remembered(player));
        for (int plan = 0; plan < p.count(3 + player); plan++) {
            same(at + " goes " + plan, g.goes(player, plan), p.goes(player, plan));
            for (int what = 0; what < 3; what++) {
                same(at + " than " + plan + " " + what, g.than(player, plan, what), p.than(player, plan, what));
            }
            same(at + " taken", g.taken(50, player, plan), p.taken(50, player, plan));
            same(at + " answer", g.answer(1 - player, plan), p.answer(1 - player, plan));
        }
    }
}
