import java.math.BigInteger;
import java.util.ArrayDeque;
import java.util.ArrayList;
import java.util.Deque;
import java.util.LinkedHashMap;
import java.util.List;
import java.util.Map;
import java.util.regex.Matcher;
import java.util.regex.Pattern;

/**
 * The document told a second time, as plainly as the Java library lets it be, and written in another way than the
 * program: the head comes first in its lists, everything is copied, chances are big numbers.
 */
final class Model {
    static final int BAD = -1, NO = -2, FULL = -3, NONE = -4;

    private static final class Man {
        int kind, t, family;
        String where = "not come";
        int stood, ateIn = NONE, warm = NONE;

        Man copy() {
            Man m = new Man();
            m.kind = kind;
            m.t = t;
            m.family = family;
            m.where = where;
            m.stood = stood;
            m.ateIn = ateIn;
            m.warm = warm;
            return m;
        }
    }

    private static final class World {
        List<Man> men = new ArrayList<>();
        List<Man> queue = new ArrayList<>(); // head first, so that the tail is the last
        int b = 2, h = 20, m = 0, minute, loaves, heat;
        boolean twoBakers;

        World copy() {
            World w = new World();
            Map<Man, Man> twins = new LinkedHashMap<>();
            for (Man x : men) {
                twins.put(x, x.copy());
            }
            w.men.addAll(twins.values());
            for (Man x : queue) {
                w.queue.add(twins.get(x));
            }
            w.b = b;
            w.h = h;
            w.m = m;
            w.minute = minute;
            w.loaves = loaves;
            w.heat = heat;
            w.twoBakers = twoBakers;
            return w;
        }

        void join(Man x) {
            int at = queue.size();
            if (at > 0) {
                Man last = queue.get(at - 1);
                boolean sameFamily = last.family > 0 && x.family > 0 && last.family == x.family;
                if (last.kind == 1 && !sameFamily) {
                    at--;
                }
            }
            queue.add(at, x);
            x.where = "line";
            x.stood = 0;
        }

        void sneeze(Man x) {
            queue.remove(x);
            queue.add(0, x);
            x.stood = 0;
        }

        void leave(Man x) {
            queue.remove(x);
            x.where = "away";
            x.stood = 0;
        }

        boolean giveUp(Man x) {
            int i = queue.indexOf(x);
            if (i <= 0) {
                return false;
            }
            queue.set(i, queue.get(i - 1));
            queue.set(i - 1, x);
            return true;
        }

        void loaf(boolean head) {
            if (queue.isEmpty()) {
                return;
            }
            List<Man> inTurn = new ArrayList<>(queue);
            if (!head) {
                java.util.Collections.reverse(inTurn);
            }
            Man eater = inTurn.stream().filter(x -> x.kind != 3).findFirst().orElse(inTurn.get(0));
            queue.remove(eater);
            eater.where = "eaten";
            eater.stood = 0;
            eater.ateIn = minute;
            eater.warm = Math.max(0, h - loaves);
            heat += eater.warm;
            loaves++;
        }

        void minute(boolean rumour) {
            for (Man x : men) {
                if (x.where.equals("not come") && x.t == minute) {
                    join(x);
                }
            }
            for (Man x : men) {
                if (x.where.equals("line") && x.kind == 2 && x.stood >= 4) {
                    sneeze(x);
                }
            }
            if (minute % b == 0) {
                loaf(rumour);
                if (twoBakers) {
                    loaf(!rumour);
                }
            }
            for (Man x : queue) {
                x.stood++;
            }
            minute++;
        }

        World after(int n) {
            World w = copy();
            for (int i = 0; i < n; i++) {
                w.minute(w.m != 0 && w.minute % w.m == 0);
            }
            return w;
        }

        int eaten() {
            return (int) men.stream().filter(x -> x.where.equals("eaten")).count();
        }

        /** 100 for never. */
        int when(int p) {
            World w = copy();
            for (int n = 1; n <= 99; n++) {
                w = w.after(1);
                if (w.men.get(p).where.equals("eaten")) {
                    return n;
                }
            }
            return 100;
        }
    }

    private static final Pattern ITEM = Pattern.compile(
            "p([0-9]{1,2}),([0-9]{1,2}),([0-9]{1,2});|b([0-9]{1,2}),([0-9]{1,2});|r([0-9]{1,2});");

    private String text = "";
    private World world;
    private final Deque<World> past = new ArrayDeque<>();
    private final Deque<World> kept = new ArrayDeque<>();
    private final List<int[]> seen = new ArrayList<>();

    Model() {
        world = new World();
        read("p0,0,0;p1,0,1;p0,1,1;p2,2,0;p0,3,2;p3,4,2;p1,6,0;p0,8,0;p2,9,1;b3,20;r7;", world);
    }

    private static int read(String t, World into) {
        int start = 0;
        Matcher item = ITEM.matcher(t);
        while (start < t.length()) {
            item.region(start, t.length());
            if (!item.lookingAt() || !take(item, into)) {
                return start;
            }
            start = item.end();
        }
        return NONE;
    }

    private static boolean take(Matcher item, World into) {
        if (item.group(1) != null) {
            Man x = new Man();
            x.kind = Integer.parseInt(item.group(1));
            x.t = Integer.parseInt(item.group(2));
            x.family = Integer.parseInt(item.group(3));
            into.men.add(x);
            long alike = into.men.stream().filter(y -> y.family == x.family).count();
            return x.kind < 4 && x.family < 5 && into.men.size() <= 9 && (x.family == 0 || alike <= 5);
        }
        if (item.group(4) != null) {
            into.b = Integer.parseInt(item.group(4));
            into.h = Integer.parseInt(item.group(5));
            return into.b >= 1 && into.b <= 9 && into.h <= 40;
        }
        into.m = Integer.parseInt(item.group(6));
        return into.m >= 2 && into.m <= 30;
    }

    private boolean known(int p) {
        return p >= 0 && p < world.men.size();
    }

    private boolean is(int p, String where) {
        return world.men.get(p).where.equals(where);
    }

    private static boolean in(int x, int low, int high) {
        return low <= x && x <= high;
    }

    private static int placeFromTail(World w, int p) {
        int i = w.queue.indexOf(w.men.get(p));
        return i < 0 ? NONE : w.queue.size() - 1 - i;
    }

    private static int atTailPlace(World w, int k) {
        return k < w.queue.size() ? w.men.indexOf(w.queue.get(w.queue.size() - 1 - k)) : NONE;
    }

    private void change() {
        past.push(world.copy());
        if (past.size() > 8) {
            past.removeLast();
        }
    }

    int write(int letter) {
        if (!in(letter, 32, 126)) {
            return BAD;
        }
        if (text.length() == 200) {
            return FULL;
        }
        text += (char) letter;
        return text.length();
    }

    int wipe() {
        int was = text.length();
        text = "";
        return was;
    }

    int fault() {
        return read(text, new World());
    }

    int lay() {
        World w = new World();
        if (read(text, w) != NONE || w.men.isEmpty()) {
            return NO;
        }
        world = w;
        past.clear();
        kept.clear();
        seen.clear();
        return w.men.size();
    }

    int person(int p, int what) {
        if (!known(p) || !in(what, 0, 7)) {
            return BAD;
        }
        Man x = world.men.get(p);
        int where = List.of("not come", "line", "away", "eaten").indexOf(x.where);
        return List.of(x.kind, x.t, x.family, where, placeFromTail(world, p), x.stood, x.ateIn, x.warm).get(what);
    }

    int at(int k) {
        return k < 0 ? BAD : atTailPlace(world, k);
    }

    int pass(int n) {
        if (!in(n, 1, 30)) {
            return BAD;
        }
        change();
        world = world.after(n);
        return world.eaten();
    }

    int giveUp(int p) {
        if (!known(p)) {
            return BAD;
        }
        if (world.queue.indexOf(world.men.get(p)) <= 0) {
            return NO;
        }
        change();
        world.giveUp(world.men.get(p));
        return placeFromTail(world, p);
    }

    int sneeze(int p) {
        if (!known(p)) {
            return BAD;
        }
        if (!is(p, "line")) {
            return NO;
        }
        change();
        world.sneeze(world.men.get(p));
        return world.queue.size();
    }

    int leave(int p) {
        if (!known(p)) {
            return BAD;
        }
        if (!is(p, "line")) {
            return NO;
        }
        change();
        world.leave(world.men.get(p));
        return world.queue.size();
    }

    int again(int p) {
        if (!known(p)) {
            return BAD;
        }
        if (!is(p, "away")) {
            return NO;
        }
        change();
        world.join(world.men.get(p));
        return placeFromTail(world, p);
    }

    int undo() {
        if (past.isEmpty()) {
            return NO;
        }
        world = past.pop();
        return past.size();
    }

    int behind(int n, int k) {
        if (!in(n, 0, 60) || !in(k, -1, 8)) {
            return BAD;
        }
        World w = world.after(n);
        return k < 0 ? w.queue.size() : atTailPlace(w, k);
    }

    private int whenWith(int p, boolean two) {
        if (!known(p)) {
            return BAD;
        }
        if (is(p, "eaten")) {
            return NO;
        }
        World w = world.copy();
        w.twoBakers = two;
        int n = w.when(p);
        return n == 100 ? NONE : n;
    }

    int when(int p) {
        return whenWith(p, false);
    }

    int besides(int p) {
        return whenWith(p, true);
    }

    int pays() {
        int bits = 0;
        for (int p = 0; p < world.men.size(); p++) {
            World w = world.copy();
            if (is(p, "line")) {
                w.leave(w.men.get(p));
                w.join(w.men.get(p));
                bits += w.when(p) < world.when(p) ? 1 << p : 0;
            }
        }
        return bits;
    }

    int gains() {
        int bits = 0;
        for (int p = 0; p < world.men.size(); p++) {
            World w = world.copy();
            if (is(p, "line")) {
                w.sneeze(w.men.get(p));
                bits += w.when(p) < world.when(p) ? 1 << p : 0;
            }
        }
        return bits;
    }

    int family(int f, int k) {
        if (!in(f, 1, 4) || !in(k, 0, 5)) {
            return BAD;
        }
        List<Integer> toCome = new ArrayList<>();
        for (int p = 0; p < world.men.size(); p++) {
            if (world.men.get(p).family == f && is(p, "not come")) {
                toCome.add(p);
            }
        }
        if (toCome.isEmpty()) {
            return NO;
        }
        if (k > toCome.size()) {
            return NONE;
        }
        List<List<Integer>> orders = new ArrayList<>();
        permute(new ArrayList<>(), toCome, orders);
        int least = 1000;
        List<Integer> best = null;
        for (List<Integer> order : orders) {
            int longest = longest(order);
            if (longest < least) {
                least = longest;
                best = order;
            }
        }
        return k == 0 ? least : best.get(k - 1);
    }

    private int longest(List<Integer> order) {
        World w = world.copy();
        for (int i = 0; i < order.size(); i++) {
            w.men.get(order.get(i)).t = w.minute + i;
        }
        World end = w.after(99);
        int longest = 0;
        for (int p : order) {
            Man x = end.men.get(p);
            longest = Math.max(longest, x.where.equals("eaten") ? x.ateIn - x.t : 99);
        }
        return longest;
    }

    private static void permute(List<Integer> head, List<Integer> rest, List<List<Integer>> into) {
        if (rest.isEmpty()) {
            into.add(head);
        }
        for (Integer next : rest) {
            List<Integer> longer = new ArrayList<>(head);
            longer.add(next);
            List<Integer> fewer = new ArrayList<>(rest);
            fewer.remove(next);
            permute(longer, fewer, into);
        }
    }

    int warmth(int n) {
        return in(n, 0, 60) ? world.after(n).heat - world.heat : BAD;
    }

    int see(int p, int t, boolean has) {
        if (!known(p) || !in(t, 1, 60)) {
            return BAD;
        }
        if (seen.size() == 6) {
            return FULL;
        }
        seen.add(new int[] {p, t, has ? 1 : 0});
        return seen.size();
    }

    int forget() {
        int were = seen.size();
        seen.clear();
        return were;
    }

    private boolean allSeen(World w) {
        return seen.stream().allMatch(s -> w.after(s[1]).men.get(s[0]).where.equals("eaten") == (s[2] == 1));
    }

    int sneezed() {
        int bits = allSeen(world) ? 512 : 0;
        for (int p = 0; p < world.men.size(); p++) {
            World w = world.copy();
            if (is(p, "line")) {
                w.sneeze(w.men.get(p));
                bits += allSeen(w) ? 1 << p : 0;
            }
        }
        return bits;
    }

    int kinds(int p) {
        if (!known(p)) {
            return BAD;
        }
        int bits = 0;
        for (int kind = 0; kind < 4; kind++) {
            World w = world.copy();
            w.men.get(p).kind = kind;
            bits += allSeen(w) ? 1 << kind : 0;
        }
        return bits;
    }

    int rumours(int p, int n, int x, int part) {
        if (!known(p) || !in(n, 0, 8) || !in(x, 0, 10) || !in(part, 0, 1)) {
            return BAD;
        }
        BigInteger above = chance(world, p, n, x);
        BigInteger below = BigInteger.TEN.pow(n);
        BigInteger common = above.gcd(below);
        return (part == 0 ? above : below).divide(common).intValueExact();
    }

    private static BigInteger chance(World w, int p, int n, int x) {
        if (n == 0) {
            return w.men.get(p).where.equals("eaten") ? BigInteger.ONE : BigInteger.ZERO;
        }
        World with = w.copy();
        with.minute(true);
        World without = w.copy();
        without.minute(false);
        return chance(with, p, n - 1, x).multiply(BigInteger.valueOf(x))
                .add(chance(without, p, n - 1, x).multiply(BigInteger.valueOf(10 - x)));
    }

    int day(int z, int n, int what) {
        if (!in(z, 0, 9999) || !in(n, 1, 60) || !in(what, 0, 1)) {
            return BAD;
        }
        World w = world.copy();
        for (int k = 0; k < n; k++) {
            BigInteger x = BigInteger.valueOf(7919L * z).add(BigInteger.valueOf(6151L * k)).add(BigInteger.ONE);
            int draw = x.multiply(x).mod(BigInteger.valueOf(65521)).intValueExact();
            Man one = w.men.get((draw / 8) % w.men.size());
            if (draw % 5 == 0) {
                w.giveUp(one);
            } else if (draw % 5 == 1 && one.where.equals("line")) {
                w.sneeze(one);
            } else if (draw % 5 == 2 && one.where.equals("line")) {
                w.leave(one);
            } else if (draw % 5 == 3 && one.where.equals("away")) {
                w.join(one);
            }
            w = w.after(1);
        }
        return what == 0 ? w.eaten() : w.heat - world.heat;
    }

    int keep() {
        if (kept.size() == 2) {
            return FULL;
        }
        kept.push(world.copy());
        return kept.size();
    }

    int back() {
        if (kept.isEmpty()) {
            return NO;
        }
        world = kept.pop();
        past.clear();
        return kept.size();
    }

    int count(int what) {
        switch (what) {
            case 0: return world.men.size();
            case 1: return world.minute;
            case 2: return world.queue.size();
            case 3: return (int) world.men.stream().filter(x -> x.where.equals("away")).count();
            case 4: return world.eaten();
            case 5: return world.loaves;
            case 6: return seen.size();
            case 7: return past.size();
            case 8: return kept.size();
            case 9: return text.length();
            default: return BAD;
        }
    }
}
