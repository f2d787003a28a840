import java.util.ArrayList;
import java.util.LinkedHashSet;
import java.util.List;
import java.util.Set;
import java.util.TreeSet;

/**
 * The document once more, slowly and with the Java library: trees of objects, PLANS as rows of ACTS,
 * nothing kept. RandomRunsTest holds GameRows against it.
 */
final class PlainGame {
    private static final int NONE = -1, BAD = -2, FULL = -3, TAKEN = -4, DEEP = -5, WRONG = -6, EMPTY = -1000000;

    private static final class Hidden {
        final int number;
        final int player;
        final int acts;

        Hidden(int number, int player, int acts) {
            this.number = number;
            this.player = player;
            this.acts = acts;
        }
    }

    private static final class Place {
        final int number;
        final Hidden hidden;
        final int worth0;
        final int worth1;
        final List<Place> children;
        Place parent = null;

        Place(int number, Hidden hidden, int worth0, int worth1, List<Place> children) {
            this.number = number;
            this.hidden = hidden;
            this.worth0 = worth0;
            this.worth1 = worth1;
            this.children = children;
        }

        int sort() {
            return hidden != null ? 2 : children.isEmpty() ? 0 : 1;
        }

        void gather(List<Place> into) {
            into.add(this);
            for (Place c : children) {
                c.gather(into);
            }
        }

        int depth() {
            int most = -1;
            for (Place c : children) {
                most = Math.max(most, c.depth());
            }
            return most + 1;
        }

        int chances() {
            int most = 0;
            for (Place c : children) {
                most = Math.max(most, c.chances());
            }
            return most + (sort() == 1 ? 1 : 0);
        }

        /** In parts of 6 to the 8; acts by the SET'S number. */
        long mean(int[] acts, int player) {
            if (sort() == 0) {
                return (player == 0 ? worth0 : worth1) * 1679616L;
            }
            if (hidden != null) {
                return children.get(acts[hidden.number]).mean(acts, player);
            }
            long sum = 0;
            for (Place c : children) {
                sum += c.mean(acts, player);
            }
            if (sum % children.size() != 0) {
                throw new IllegalStateException("not whole");
            }
            return sum / children.size();
        }
    }

    private final List<Hidden> hiddens = new ArrayList<>();
    private final List<Place> places = new ArrayList<>();
    // Once for each THE TREE: the PLANS and the WORTHS, else the long runs would take hours.
    private List<int[]> plans0;
    private List<int[]> plans1;
    private int[][][] pairs;

    int clear() {
        int n = places.size();
        places.clear();
        hiddens.clear();
        pairs = null;
        return n;
    }

    int set(int player, int acts) {
        if (player < 0 || player > 1 || acts < 2 || acts > 3) {
            return BAD;
        }
        if (hiddens.size() == 10) {
            return FULL;
        }
        hiddens.add(new Hidden(hiddens.size(), player, acts));
        return hiddens.size() - 1;
    }

    int end(int worth0, int worth1) {
        if (Math.abs((long) worth0) > 100 || Math.abs((long) worth1) > 100) {
            return BAD;
        }
        if (places.size() == 40) {
            return FULL;
        }
        return put(new Place(places.size(), null, worth0, worth1, new ArrayList<>()));
    }

    private int put(Place p) {
        places.add(p);
        for (Place c : p.children) {
            c.parent = p;
        }
        pairs = null;
        return p.number;
    }

    int chance(int a, int b, int c) {
        List<Integer> wanted = new ArrayList<>();
        wanted.add(a);
        if (b != -1 || c != -1) {
            wanted.add(b);
        }
        if (c != -1) {
            wanted.add(c);
        }
        return putAbove(null, wanted);
    }

    int node(int set, int a, int b, int c) {
        if (set < 0 || set >= hiddens.size()) {
            return BAD;
        }
        Hidden h = hiddens.get(set);
        return putAbove(h, h.acts == 2 ? List.of(a, b) : List.of(a, b, c));
    }

    private int putAbove(Hidden hidden, List<Integer> wanted) {
        for (int w : wanted) {
            if (w < 0 || w >= places.size()) {
                return BAD;
            }
        }
        if (places.size() == 40) {
            return FULL;
        }
        List<Place> children = new ArrayList<>();
        for (int w : wanted) {
            children.add(places.get(w));
        }
        if (new TreeSet<>(wanted).size() < wanted.size()) {
            return TAKEN;
        }
        for (Place c : children) {
            if (c.parent != null) {
                return TAKEN;
            }
        }
        Place p = new Place(places.size(), hidden, 0, 0, children);
        if (p.depth() >= 9 || p.chances() >= 6) {
            return DEEP;
        }
        if (plansBelow(p, 0).size() > 64 || plansBelow(p, 1).size() > 64) {
            return WRONG;
        }
        return put(p);
    }

    private static Set<Hidden> hiddensBelow(Place p) {
        List<Place> there = new ArrayList<>();
        p.gather(there);
        Set<Hidden> found = new LinkedHashSet<>();
        for (Place t : there) {
            if (t.hidden != null) {
                found.add(t.hidden);
            }
        }
        return found;
    }

    /** Rows of ACTS by the SET'S number, -1 where the PLAN names none, rising. */
    private List<int[]> plansBelow(Place p, int player) {
        Set<Hidden> there = hiddensBelow(p);
        List<int[]> plans = new ArrayList<>();
        int[] none = new int[10];
        java.util.Arrays.fill(none, -1);
        plans.add(none);
        for (Hidden h : hiddens) {
            if (h.player == player && there.contains(h)) {
                List<int[]> longer = new ArrayList<>();
                for (int[] plan : plans) {
                    for (int a = 0; a < h.acts; a++) {
                        int[] with = plan.clone();
                        with[h.number] = a;
                        longer.add(with);
                    }
                }
                plans = longer;
            }
        }
        return plans;
    }

    private static int[] joined(int[] plan0, int[] plan1) {
        int[] acts = plan0.clone();
        for (int i = 0; i < acts.length; i++) {
            if (plan1[i] != -1) {
                acts[i] = plan1[i];
            }
        }
        return acts;
    }

    private Place root() {
        return places.get(places.size() - 1);
    }

    private List<Place> tree() {
        List<Place> there = new ArrayList<>();
        root().gather(there);
        return there;
    }

    private void weigh() {
        if (pairs == null) {
            plans0 = plansBelow(root(), 0);
            plans1 = plansBelow(root(), 1);
            pairs = worthsOf(root(), plans0, plans1);
        }
    }

    private static int[][][] worthsOf(Place start, List<int[]> some0, List<int[]> some1) {
        int[][][] found = new int[2][some0.size()][some1.size()];
        for (int i = 0; i < some0.size(); i++) {
            for (int j = 0; j < some1.size(); j++) {
                int[] acts = joined(some0.get(i), some1.get(j));
                found[0][i][j] = (int) (start.mean(acts, 0) / 216);
                found[1][i][j] = (int) (start.mean(acts, 1) / 216);
            }
        }
        return found;
    }

    private int plans(int player) {
        weigh();
        return player == 0 ? plans0.size() : plans1.size();
    }

    private int value(int player, int own, int other) {
        return player == 0 ? pairs[0][own][other] : pairs[1][other][own];
    }

    private boolean isPlan(int player, int plan) {
        return player >= 0 && player <= 1 && plan >= 0 && plan < plans(player);
    }

    int count(int what) {
        if (what < 0 || what > 9) {
            return BAD;
        }
        if (what == 0) {
            return places.size();
        }
        if (what == 1) {
            return hiddens.size();
        }
        if (places.isEmpty()) {
            return what == 2 ? 0 : EMPTY;
        }
        if (what == 2) {
            return tree().size();
        }
        if (what == 3 || what == 4) {
            return plans(what - 3);
        }
        if (what == 5 || what == 6) {
            return points(what == 6).size();
        }
        if (what == 7) {
            return gamesWithin().size();
        }
        if (what == 8) {
            return left(0).size() * left(1).size();
        }
        return root().depth();
    }

    int told(int node, int what) {
        if (node < 0 || node >= places.size() || what < 0 || what > 5) {
            return EMPTY;
        }
        Place p = places.get(node);
        if (what == 0) {
            return p.sort();
        }
        if (what == 1) {
            return p.sort() == 0 ? p.worth0 : p.sort() == 1 ? NONE : p.hidden.number;
        }
        if (what == 2) {
            return p.parent == null ? NONE : p.parent.number;
        }
        if (p.sort() == 0) {
            return what == 3 ? p.worth1 : NONE;
        }
        return what - 3 < p.children.size() ? p.children.get(what - 3).number : NONE;
    }

    int act(int player, int plan, int set) {
        if (places.isEmpty()) {
            return EMPTY;
        }
        if (!isPlan(player, plan) || set < 0 || set >= hiddens.size()) {
            return BAD;
        }
        return (player == 0 ? plans0 : plans1).get(plan)[set];
    }

    int worth(int plan0, int plan1, int player) {
        if (places.isEmpty() || !isPlan(0, plan0) || !isPlan(1, plan1) || player < 0 || player > 1) {
            return EMPTY;
        }
        return pairs[player][plan0][plan1];
    }

    int answer(int player, int plan) {
        if (places.isEmpty()) {
            return EMPTY;
        }
        if (player < 0 || player > 1 || !isPlan(1 - player, plan)) {
            return BAD;
        }
        int most = Integer.MIN_VALUE;
        for (int i = 0; i < plans(player); i++) {
            most = Math.max(most, value(player, i, plan));
        }
        int least = 0;
        while (value(player, least, plan) != most) {
            least++;
        }
        return least;
    }

    private List<Integer> points(boolean perfect) {
        weigh();
        List<Integer> found = new ArrayList<>();
        for (int i = 0; i < plans0.size(); i++) {
            for (int j = 0; j < plans1.size(); j++) {
                boolean is = isPointAt(root(), i, j);
                if (perfect) {
                    for (Place p : gamesWithin()) {
                        is = is && isPointAt(p, i, j);
                    }
                }
                if (is) {
                    found.add(64 * i + j);
                }
            }
        }
        return found;
    }

    /** Tries each row of ACTS for the SETS that are there. */
    private boolean isPointAt(Place start, int plan0, int plan1) {
        int[] acts = joined(plans0.get(plan0), plans1.get(plan1));
        for (int player = 0; player < 2; player++) {
            long now = start.mean(acts, player);
            for (int[] instead : plansBelow(start, player)) {
                if (start.mean(joined(acts, instead), player) > now) {
                    return false;
                }
            }
        }
        return true;
    }

    private List<Place> gamesWithin() {
        List<Place> all = tree();
        List<Place> found = new ArrayList<>();
        for (Place p : places) {
            if (p == root() || all.contains(p) && p.hidden != null && isWithin(p, all)) {
                found.add(p);
            }
        }
        return found;
    }

    private static boolean isWithin(Place p, List<Place> all) {
        List<Place> below = new ArrayList<>();
        p.gather(below);
        for (Place q : all) {
            if (q != p && q.hidden == p.hidden) {
                return false;
            }
            if (!below.contains(q) && q.hidden != null && hiddensBelow(p).contains(q.hidden)) {
                return false;
            }
        }
        return true;
    }

    int point(boolean perfect, int k) {
        if (places.isEmpty()) {
            return EMPTY;
        }
        List<Integer> all = points(perfect);
        return k >= 0 && k < all.size() ? all.get(k) : NONE;
    }

    int within(int k) {
        if (places.isEmpty()) {
            return EMPTY;
        }
        List<Place> all = gamesWithin();
        return k >= 0 && k < all.size() ? all.get(k).number : NONE;
    }

    private boolean isWorse(int player, int plan, int than, Set<Integer> others) {
        for (int o : others) {
            if (!(value(player, plan, o) < value(player, than, o))) {
                return false;
            }
        }
        return true;
    }

    int than(int player, int plan, int what) {
        if (places.isEmpty()) {
            return EMPTY;
        }
        if (!isPlan(player, plan) || what < 0 || what > 2) {
            return BAD;
        }
        int others = plans(1 - player);
        for (int q = 0; q < plans(player); q++) {
            int less = 0;
            int more = 0;
            int alike = 0;
            for (int o = 0; o < others; o++) {
                int d = Integer.compare(value(player, plan, o), value(player, q, o));
                int e = player == 0 ? pairs[1][plan][o] - pairs[1][q][o] : pairs[0][o][plan] - pairs[0][o][q];
                less += d < 0 ? 1 : 0;
                more += d > 0 ? 1 : 0;
                alike += d == 0 && e == 0 ? 1 : 0;
            }
            if (what == 0 && less == others || what == 1 && more == 0 && less > 0 || what == 2 && alike == others) {
                return q;
            }
        }
        return NONE;
    }

    private static Set<Integer> upTo(int n) {
        Set<Integer> all = new TreeSet<>();
        for (int i = 0; i < n; i++) {
            all.add(i);
        }
        return all;
    }

    /** What is left of both PLAYERS behind so many ROUNDS. */
    private List<Set<Integer>> leftBehind(int rounds) {
        List<Set<Integer>> left = List.of(upTo(plans(0)), upTo(plans(1)));
        for (int r = 0; r < rounds; r++) {
            List<Set<Integer>> next = List.of(new TreeSet<>(left.get(0)), new TreeSet<>(left.get(1)));
            for (int player = 0; player < 2; player++) {
                for (int plan : left.get(player)) {
                    for (int q : left.get(player)) {
                        if (isWorse(player, plan, q, left.get(1 - player))) {
                            next.get(player).remove(plan);
                        }
                    }
                }
            }
            if (next.equals(left)) {
                return left;
            }
            left = next;
        }
        return left;
    }

    private Set<Integer> left(int player) {
        return leftBehind(200).get(player);
    }

    int goes(int player, int plan) {
        if (places.isEmpty()) {
            return EMPTY;
        }
        if (!isPlan(player, plan)) {
            return BAD;
        }
        if (left(player).contains(plan)) {
            return NONE;
        }
        int round = 1;
        while (leftBehind(round).get(player).contains(plan)) {
            round++;
        }
        return round;
    }

    int sure(int player) {
        if (places.isEmpty() || player < 0 || player > 1) {
            return EMPTY;
        }
        int greatest = Integer.MIN_VALUE;
        for (int i = 0; i < plans(player); i++) {
            int least = Integer.MAX_VALUE;
            for (int j = 0; j < plans(1 - player); j++) {
                least = Math.min(least, value(player, i, j));
            }
            greatest = Math.max(greatest, least);
        }
        return greatest;
    }

    int remembered(int player) {
        if (places.isEmpty()) {
            return EMPTY;
        }
        if (player < 0 || player > 1) {
            return BAD;
        }
        List<Place> all = tree();
        for (Place p : all) {
            for (Place q : all) {
                if (p.hidden != null && p.hidden == q.hidden && p.hidden.player == player
                        && !way(p, player).equals(way(q, player))) {
                    return 0;
                }
            }
        }
        return 1;
    }

    private static List<String> way(Place p, int player) {
        List<String> row = new ArrayList<>();
        for (Place q = p; q.parent != null; q = q.parent) {
            Hidden h = q.parent.hidden;
            if (h != null && h.player == player) {
                row.add(0, h.number + ":" + q.parent.children.indexOf(q));
            }
        }
        return row;
    }

    /** The PLANS that both took, round by round. */
    private List<List<Integer>> play(int rounds) {
        List<List<Integer>> took = List.of(new ArrayList<>(List.of(0)), new ArrayList<>(List.of(0)));
        for (int r = 1; r < rounds; r++) {
            int[] next = {best(0, took.get(1)), best(1, took.get(0))};
            took.get(0).add(next[0]);
            took.get(1).add(next[1]);
        }
        return took;
    }

    private int sum(int player, int own, List<Integer> others) {
        int sum = 0;
        for (int o : others) {
            sum += value(player, own, o);
        }
        return sum;
    }

    private int best(int player, List<Integer> others) {
        int best = -1;
        int most = Integer.MIN_VALUE;
        for (int i = 0; i < plans(player); i++) {
            int now = sum(player, i, others);
            if (now > most) {
                most = now;
                best = i;
            }
        }
        return best;
    }

    int taken(int rounds, int player, int plan) {
        if (places.isEmpty()) {
            return EMPTY;
        }
        if (rounds < 1 || rounds > 200 || !isPlan(player, plan)) {
            return BAD;
        }
        int times = 0;
        for (int p : play(rounds).get(player)) {
            times += p == plan ? 1 : 0;
        }
        return times;
    }

    int bound(int rounds, int what) {
        if (places.isEmpty() || rounds < 1 || rounds > 200 || what < 0 || what > 1) {
            return EMPTY;
        }
        weigh();
        List<List<Integer>> took = play(rounds);
        int low = Integer.MAX_VALUE;
        for (int j = 0; j < plans(1); j++) {
            int sum = 0;
            for (int i : took.get(0)) {
                sum += pairs[0][i][j];
            }
            low = Math.min(low, sum);
        }
        int high = Integer.MIN_VALUE;
        for (int i = 0; i < plans(0); i++) {
            high = Math.max(high, sum(0, i, took.get(1)));
        }
        return what == 0 ? low : high;
    }
}
