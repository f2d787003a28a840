import java.util.ArrayList;
import java.util.List;
import java.util.function.Supplier;
import java.util.function.ToIntFunction;

/** What the tests of the promises share: calls that tell their names, and ways to say what is due to them. */
abstract class Promises {
    static final int NONE = GameRows.NONE;
    static final int BAD = GameRows.BAD;
    static final int FULL = GameRows.FULL;
    static final int TAKEN = GameRows.TAKEN;
    static final int DEEP = GameRows.DEEP;
    static final int WRONG = GameRows.WRONG;
    static final int EMPTY = GameRows.EMPTY;
    static final int MIN = Integer.MIN_VALUE;
    static final int MAX = Integer.MAX_VALUE;
    static final int PARTS = 7776;

    // An object is used for 512 calls at most: some to make it, some to refuse, these to look at it.
    private static final int CALLS_TO_LOOK = 300;
    private static final int CALLS_TO_REFUSE = 140;
    private static final int[] SOME_PLANS = {0, 1, 2, 3, 53, 63};
    private static final int[] SOME_ROUNDS = {1, 2, 9, 200};

    private static Check check;

    /** One call that can be made of any object. */
    record Call(String name, ToIntFunction<GameRows> on) {
    }

    static void start(String promise) {
        check = new Check(promise);
    }

    static void sentence(String words) {
        check.sentence(words);
    }

    static void close() {
        check.close();
    }

    static Call clear() {
        return new Call("clear()", GameRows::clear);
    }

    static Call set(int player, int acts) {
        return new Call(named("set", player, acts), g -> g.set(player, acts));
    }

    static Call end(int worth0, int worth1) {
        return new Call(named("end", worth0, worth1), g -> g.end(worth0, worth1));
    }

    static Call chance(int a, int b, int c) {
        return new Call(named("chance", a, b, c), g -> g.chance(a, b, c));
    }

    static Call node(int set, int a, int b, int c) {
        return new Call(named("node", set, a, b, c), g -> g.node(set, a, b, c));
    }

    static Call count(int what) {
        return new Call(named("count", what), g -> g.count(what));
    }

    static Call told(int node, int what) {
        return new Call(named("told", node, what), g -> g.told(node, what));
    }

    static Call act(int player, int plan, int set) {
        return new Call(named("act", player, plan, set), g -> g.act(player, plan, set));
    }

    static Call worth(int plan0, int plan1, int player) {
        return new Call(named("worth", plan0, plan1, player), g -> g.worth(plan0, plan1, player));
    }

    static Call answer(int player, int plan) {
        return new Call(named("answer", player, plan), g -> g.answer(player, plan));
    }

    static Call point(boolean perfect, int k) {
        return new Call("point(" + perfect + ", " + k + ")", g -> g.point(perfect, k));
    }

    static Call within(int k) {
        return new Call(named("within", k), g -> g.within(k));
    }

    static Call than(int player, int plan, int what) {
        return new Call(named("than", player, plan, what), g -> g.than(player, plan, what));
    }

    static Call goes(int player, int plan) {
        return new Call(named("goes", player, plan), g -> g.goes(player, plan));
    }

    static Call sure(int player) {
        return new Call(named("sure", player), g -> g.sure(player));
    }

    static Call remembered(int player) {
        return new Call(named("remembered", player), g -> g.remembered(player));
    }

    static Call taken(int rounds, int player, int plan) {
        return new Call(named("taken", rounds, player, plan), g -> g.taken(rounds, player, plan));
    }

    static Call bound(int rounds, int what) {
        return new Call(named("bound", rounds, what), g -> g.bound(rounds, what));
    }

    private static String named(String call, int... numbers) {
        StringBuilder text = new StringBuilder(call);
        for (int i = 0; i < numbers.length; i++) {
            text.append(i == 0 ? "(" : ", ").append(numbers[i]);
        }
        return text.append(')').toString();
    }

    static void due(GameRows g, Call call, int due) {
        check.same(call.name(), call.on().applyAsInt(g), due);
    }

    /** The same, with a word on what the game is. */
    static void due(String game, GameRows g, Call call, int due) {
        check.same(game + ": " + call.name(), call.on().applyAsInt(g), due);
    }

    static void holds(String what, boolean isSo) {
        check.holds(what, isSo);
    }

    /** Numbers out of least .. most: the next ones on both sides, far ones, and such as fewer bits would take for good ones. */
    static int[] outOf(int least, int most) {
        return new int[] {least - 1, most + 1, least - 64, most + 64, least - 256, most + 256, least - 65536,
            most + 65536, MIN, MAX};
    }

    /** All are refused so, one behind the other, and an object that refused them is like one that was never asked. */
    static void refused(Supplier<GameRows> made, int due, Call... calls) {
        check.holds("few enough calls for one object", calls.length <= CALLS_TO_REFUSE);
        GameRows g = made.get();
        for (Call call : calls) {
            due(g, call, due);
        }
        alike("behind " + calls[0].name() + " and so on", () -> {
            GameRows h = made.get();
            for (Call call : calls) {
                call.on().applyAsInt(h);
            }
            return h;
        }, made);
    }

    static void refused(Supplier<GameRows> made, int due, List<Call> calls) {
        refused(made, due, calls.toArray(new Call[0]));
    }

    /** What needs THE TREE, in each way to be without NODES. */
    static void emptyWithoutNodes(List<Call> calls) {
        refused(GameRows::new, EMPTY, calls);
        refused(Games::setsAlone, EMPTY, calls);
        refused(Games::cleared, EMPTY, calls);
        refused(Games::endRefused, EMPTY, calls);
    }

    /** Two objects answer alike to all that can be asked, and to what is put in next. */
    static void alike(String what, Supplier<GameRows> one, Supplier<GameRows> other) {
        List<Call> questions = questions();
        GameRows g = null;
        GameRows h = null;
        for (int i = 0; i < questions.size(); i++) {
            if (i % CALLS_TO_LOOK == 0) {
                g = one.get();
                h = other.get();
            }
            Call question = questions.get(i);
            check.same(what + ": " + question.name(), question.on().applyAsInt(g), question.on().applyAsInt(h));
        }
        List<Integer> next = putInMore(one.get());
        List<Integer> otherNext = putInMore(other.get());
        check.holds(what + ": what is put in next answers " + otherNext + ", not " + next, next.equals(otherNext));
    }

    private static List<Call> questions() {
        List<Call> all = new ArrayList<>();
        for (int what = -1; what <= 10; what++) {
            all.add(count(what));
        }
        for (int n = 0; n < 40; n++) {
            for (int what = 0; what <= 5; what++) {
                all.add(told(n, what));
            }
        }
        for (int k = -1; k <= 4; k++) {
            all.add(within(k));
            all.add(point(false, k));
            all.add(point(true, k));
        }
        for (int rounds : SOME_ROUNDS) {
            all.add(bound(rounds, 0));
            all.add(bound(rounds, 1));
        }
        for (int player = 0; player < 2; player++) {
            all.add(sure(player));
            all.add(remembered(player));
            for (int plan : SOME_PLANS) {
                addQuestions(all, player, plan);
            }
        }
        return all;
    }

    private static void addQuestions(List<Call> all, int player, int plan) {
        for (int s = 0; s < 10; s++) {
            all.add(act(player, plan, s));
        }
        for (int other : SOME_PLANS) {
            all.add(worth(plan, other, player));
        }
        for (int what = 0; what <= 2; what++) {
            all.add(than(player, plan, what));
        }
        for (int rounds : SOME_ROUNDS) {
            all.add(taken(rounds, player, plan));
        }
        all.add(answer(player, plan));
        all.add(goes(player, plan));
    }

    /** Two ENDS, a CHANCE over these and THE ROOT, two SETS, a NODE of the last one, and what comes of it. */
    private static List<Integer> putInMore(GameRows g) {
        List<Integer> answers = new ArrayList<>();
        int root = g.count(0) - 1;
        int first = g.end(5, -6);
        int second = g.end(7, 8);
        int over = g.chance(root, first, second);
        int set = g.set(1, 2);
        answers.addAll(List.of(first, second, over, set, g.set(0, 3), g.node(set, g.end(1, 1), over, NONE)));
        for (int what = 0; what <= 9; what++) {
            answers.add(g.count(what));
        }
        for (int k = 0; k < 12; k++) {
            answers.add(g.within(k));
        }
        answers.addAll(List.of(g.remembered(0), g.remembered(1), g.worth(0, 0, 0), g.worth(0, 1, 1), g.clear()));
        return answers;
    }
}
