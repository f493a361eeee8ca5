import java.util.ArrayDeque;
import java.util.ArrayList;
import java.util.Arrays;
import java.util.Collections;
import java.util.HashMap;
import java.util.HashSet;
import java.util.List;
import java.util.Map;
import java.util.Random;
import java.util.Set;
import java.util.TreeMap;

/**
 * Long runs of calls drawn by fixed seeds, answered by the class and by a second, plain model of the
 * document that shares no code with it and searches by trying all: both must agree on every answer,
 * on the STATUS, and on the FRACTION.
 */
public final class OracleTest {
    private static final Set<String> RESERVED = new HashSet<>(Arrays.asList(("dish work size keeps burns from"
            + " poured once pair pots make pour over wash trust show when stands trusted full loop end stop")
            .split(" ")));

    private static final class Dish implements Cloneable {
        String name;
        int work;
        int size = 1;
        int keeps;
        int burns;
        Set<Integer> needs = new HashSet<>();
        boolean poured;
        boolean once;
        int partner = -1;
    }

    private static final class Step {
        String word;
        int one = -1;
        int other = -1;
        String test = "";
        int number;
        List<Step> inner = new ArrayList<>();
    }

    private static final class Fault extends RuntimeException {
        private static final long serialVersionUID = 1L;
        final int kind;
        final int place;

        Fault(int kind, int place) {
            this.kind = kind;
            this.place = place;
        }
    }

    private static final class Over extends RuntimeException {
        private static final long serialVersionUID = 1L;
    }

    private record Token(char kind, String word, int place) { }

    /** What stands: dish to the step in which it was made, or -1 for one that is trusted. */
    private static final class Stove {
        TreeMap<Integer, Integer> standing = new TreeMap<>();
        int work;
        int steps;

        Stove copy() {
            Stove s = new Stove();
            s.standing.putAll(standing);
            s.work = work;
            s.steps = steps;
            return s;
        }
    }

    private static final class State {
        List<Dish> dishes = new ArrayList<>();
        List<Integer> pots = new ArrayList<>();
        Stove stove = new Stove();
        List<Step> plan;

        State copy() {
            State s = new State();
            s.dishes = dishes;
            s.pots = pots;
            s.stove = stove.copy();
            s.plan = plan;
            return s;
        }
    }

    private static final class Move {
        int to;
        int work;
        int[] told;
    }

    private static final class Model {
        int status;
        long top;
        long bottom = 1;
        long[][] trays = new long[4][];
        int[] sorts = new int[4];
        List<Integer> tape = new ArrayList<>();
        int faultKind = -1;
        int faultPlace = -1;
        State now = new State();
        ArrayDeque<State> marks = new ArrayDeque<>();
        List<int[]> first = new ArrayList<>();
        int[] cooked;
        int missedFirst;

        long no(int why) {
            status = why;
            return -1;
        }

        long deny(int why) {
            status = why;
            return 0;
        }

        long yes(long v) {
            status = 0;
            return v;
        }

        // trays

        long tray(int t, int sort, int many) {
            if (t < 0 || t > 3 || sort < 0 || sort > 3 || many < 0 || many > 60) return deny(1);
            trays[t] = new long[many];
            sorts[t] = sort;
            return yes(1);
        }

        long write(int t, int place, long v) {
            if (t < 0 || t > 3) return deny(1);
            if (trays[t] == null) return deny(2);
            if (place < 0 || place >= trays[t].length) return deny(3);
            int bits = 8 << sorts[t];
            trays[t][place] = bits == 64 ? v : v << 64 - bits >> 64 - bits;
            return yes(1);
        }

        long read(int t, int place) {
            if (t < 0 || t > 3) return no(1);
            if (trays[t] == null) return no(2);
            if (place < 0 || place >= trays[t].length) return no(3);
            return yes(trays[t][place]);
        }

        long pour(int from, int place, int to, int at, int many) {
            if (from < 0 || from > 3 || to < 0 || to > 3 || place < 0 || at < 0 || many < 0) return deny(1);
            if (trays[from] == null || trays[to] == null) return deny(2);
            if (sorts[from] != sorts[to]) return deny(8);
            if ((long) place + many > trays[from].length || (long) at + many > trays[to].length) return deny(3);
            long[] taken = Arrays.copyOfRange(trays[from], place, place + many);
            for (int i = 0; i < many; i++) trays[to][at + i] = taken[i];
            return yes(1);
        }

        // texts

        long feed(int... five) {
            if (tape.size() + 20 > 900) return -1;
            for (int v : five) {
                for (int i = 3; i >= 0; i--) tape.add((int) ((v & 0xffffffffL) >> 8 * i) & 255);
            }
            return tape.size();
        }

        List<Token> cut(int n) {
            StringBuilder b = new StringBuilder();
            for (int i = 0; i < n; i++) b.append((char) (int) tape.get(i));
            String s = b.toString();
            List<Token> all = new ArrayList<>();
            int i = 0;
            while (i < n) {
                char c = s.charAt(i);
                if (c == 10 || c == 32) {
                    i++;
                    continue;
                }
                int k = i;
                if (c >= 'a' && c <= 'z') {
                    while (k < n && s.charAt(k) >= 'a' && s.charAt(k) <= 'z') k++;
                    all.add(new Token('w', s.substring(i, k), i));
                } else if (c >= '0' && c <= '9') {
                    while (k < n && s.charAt(k) >= '0' && s.charAt(k) <= '9') k++;
                    all.add(new Token(k - i > 4 ? '?' : 'n', s.substring(i, k), i));
                } else {
                    k++;
                    all.add(new Token(c == ';' ? ';' : '?', s.substring(i, k), i));
                }
                i = k;
            }
            all.add(new Token('e', "", n));
            return all;
        }

        List<Token> tokens;
        int at;

        Token peek() {
            return tokens.get(at);
        }

        boolean isWord(String w) {
            return peek().kind == 'w' && peek().word.equals(w);
        }

        RuntimeException wrong() {
            return new Fault(peek().kind == '?' ? 1 : 2, peek().place);
        }

        void want(String w) {
            if (!isWord(w)) throw wrong();
            at++;
        }

        void sign() {
            if (peek().kind != ';') throw wrong();
            at++;
        }

        int number(int least, int most) {
            if (peek().kind != 'n') throw wrong();
            int v = Integer.parseInt(peek().word);
            if (v < least || v > most) throw new Fault(4, peek().place);
            at++;
            return v;
        }

        boolean isName() {
            return peek().kind == 'w' && peek().word.length() <= 8 && !RESERVED.contains(peek().word);
        }

        int find(List<Dish> dishes, String name) {
            for (int i = 0; i < dishes.size(); i++) if (dishes.get(i).name.equals(name)) return i;
            return -1;
        }

        int named(List<Dish> dishes) {
            if (!isName()) throw wrong();
            int d = find(dishes, peek().word);
            if (d < 0) throw new Fault(3, peek().place);
            return d;
        }

        long menu(int n) {
            if (n < 0 || n > tape.size()) return no(1);
            tokens = cut(n);
            at = 0;
            tape.clear();
            State s = new State();
            try {
                while (peek().kind != 'e') part(s);
            } catch (Fault f) {
                faultKind = f.kind;
                faultPlace = f.place;
                return no(9);
            }
            faultKind = 0;
            faultPlace = -1;
            now = s;
            return yes(s.dishes.size());
        }

        void part(State s) {
            if (isWord("dish")) {
                if (s.dishes.size() == 12) throw new Fault(6, peek().place);
                at++;
                s.dishes.add(dishPart(s.dishes));
            } else if (isWord("pair")) {
                at++;
                pairPart(s.dishes);
            } else if (isWord("pots")) {
                if (!s.pots.isEmpty()) throw new Fault(5, peek().place);
                at++;
                s.pots.add(number(1, 9));
                while (peek().kind == 'n') {
                    int place = peek().place;
                    int v = number(1, 9);
                    if (s.pots.size() == 8) throw new Fault(6, place);
                    s.pots.add(v);
                }
                sign();
            } else {
                throw wrong();
            }
        }

        Dish dishPart(List<Dish> ahead) {
            Dish d = new Dish();
            if (!isName()) throw wrong();
            d.name = peek().word;
            if (find(ahead, d.name) >= 0) throw new Fault(3, peek().place);
            at++;
            want("work");
            d.work = number(0, 99);
            if (isWord("size")) {
                at++;
                d.size = number(1, 9);
            }
            if (isWord("keeps")) {
                at++;
                d.keeps = number(1, 99);
            }
            if (isWord("burns")) {
                at++;
                d.burns = number(0, 15);
            }
            if (isWord("from")) {
                at++;
                do {
                    int need = named(ahead);
                    if (!d.needs.add(need)) throw new Fault(5, peek().place);
                    at++;
                } while (peek().kind == 'w' && !isWord("poured") && !isWord("once"));
            }
            if (isWord("poured")) {
                if (d.needs.isEmpty()) throw new Fault(7, peek().place);
                at++;
                d.poured = true;
            }
            if (isWord("once")) {
                at++;
                d.once = true;
            }
            sign();
            return d;
        }

        boolean deep(List<Dish> dishes, int from, int to) {
            for (int e : dishes.get(from).needs) if (e == to || deep(dishes, e, to)) return true;
            return false;
        }

        void pairPart(List<Dish> dishes) {
            int a = named(dishes);
            if (dishes.get(a).partner >= 0) throw new Fault(5, peek().place);
            at++;
            int b = named(dishes);
            if (a == b || dishes.get(b).partner >= 0 || deep(dishes, a, b) || deep(dishes, b, a)) {
                throw new Fault(5, peek().place);
            }
            at++;
            sign();
            dishes.get(a).partner = b;
            dishes.get(b).partner = a;
        }

        int planSteps;

        long plan(int n) {
            if (n < 0 || n > tape.size() || n > 300) return no(1);
            tokens = cut(n);
            at = 0;
            tape.clear();
            planSteps = 0;
            List<Step> read;
            try {
                read = steps(0);
                if (peek().kind != 'e') throw wrong();
            } catch (Fault f) {
                faultKind = f.kind;
                faultPlace = f.place;
                return no(9);
            }
            faultKind = 0;
            faultPlace = -1;
            now.plan = read;
            return yes(planSteps);
        }

        /** A step's number in the text is kept in its field number where it has no other. */
        List<Step> steps(int depth) {
            List<Step> all = new ArrayList<>();
            while (peek().kind != 'e' && !isWord("end")) {
                String w = peek().word;
                boolean plain = Arrays.asList("make", "pour", "wash", "trust", "show", "stop").contains(w);
                boolean opens = w.equals("when") || w.equals("loop");
                if (peek().kind != 'w' || !plain && !opens) throw wrong();
                if (planSteps == 30) throw new Fault(6, peek().place);
                if (opens && depth == 3) throw new Fault(7, peek().place);
                Step s = new Step();
                s.word = w;
                s.number = planSteps++;
                at++;
                all.add(s);
                if (w.equals("when")) {
                    if (!isWord("stands") && !isWord("trusted") && !isWord("full")) throw wrong();
                    s.test = peek().word;
                    at++;
                    if (s.test.equals("full")) {
                        s.one = number(0, 12);
                    } else {
                        s.one = named(now.dishes);
                        at++;
                    }
                } else if (w.equals("loop")) {
                    s.one = number(1, 99);
                } else if (!w.equals("stop")) {
                    s.one = named(now.dishes);
                    at++;
                    if (w.equals("pour")) {
                        want("over");
                        s.other = named(now.dishes);
                        at++;
                    }
                }
                sign();
                if (opens) {
                    s.inner = steps(depth + 1);
                    want("end");
                    sign();
                }
            }
            return all;
        }

        long fault(int what) {
            return what == 0 ? faultKind : what == 1 ? faultPlace : -1;
        }

        // what is there

        boolean isDish(int d) {
            return d >= 0 && d < now.dishes.size();
        }

        boolean isSet(int set) {
            return set >= 0 && set < 1 << now.dishes.size();
        }

        int bits(Iterable<Integer> dishes) {
            int set = 0;
            for (int d : dishes) set |= 1 << d;
            return set;
        }

        int trusted(Stove s) {
            int set = 0;
            for (Map.Entry<Integer, Integer> e : s.standing.entrySet()) {
                if (e.getValue() < 0) set |= 1 << e.getKey();
            }
            return set;
        }

        long told(int what) {
            if (what < 0 || what > 5) return no(1);
            Stove s = now.stove;
            return yes(new long[] {now.dishes.size(), now.pots.size(), bits(s.standing.keySet()), trusted(s),
                s.work, s.steps}[what]);
        }

        int layer(int d) {
            int l = 0;
            for (int e : now.dishes.get(d).needs) l = Math.max(l, layer(e) + 1);
            return l;
        }

        long dish(int d, int what) {
            if (!isDish(d) || what < 0 || what > 8) return no(1);
            Dish x = now.dishes.get(d);
            if (what == 7 && x.partner < 0) return no(6);
            return yes(new long[] {x.work, x.size, x.keeps, x.burns, bits(x.needs), x.poured ? 1 : 0,
                x.once ? 1 : 0, x.partner, layer(d)}[what]);
        }

        long pot(int k) {
            return k < 0 || k >= now.pots.size() ? no(6) : yes(now.pots.get(k));
        }

        /** Greatest dishes into greatest pots. */
        boolean fit(int set, List<Integer> pots) {
            List<Integer> sizes = new ArrayList<>();
            for (int d = 0; d < now.dishes.size(); d++) if ((set >> d & 1) != 0) sizes.add(now.dishes.get(d).size);
            List<Integer> have = new ArrayList<>(pots);
            Collections.sort(sizes, Collections.reverseOrder());
            Collections.sort(have, Collections.reverseOrder());
            if (sizes.size() > have.size()) return false;
            for (int i = 0; i < sizes.size(); i++) if (sizes.get(i) > have.get(i)) return false;
            return true;
        }

        long fits(int set) {
            return isSet(set) ? yes(fit(set, now.pots) ? 1 : 0) : no(1);
        }

        int closure(int set) {
            Set<Integer> all = new HashSet<>();
            ArrayDeque<Integer> todo = new ArrayDeque<>();
            for (int d = 0; d < 12; d++) if ((set >> d & 1) != 0) todo.add(d);
            while (!todo.isEmpty()) {
                int d = todo.poll();
                if (!all.add(d)) continue;
                todo.addAll(now.dishes.get(d).needs);
                if (now.dishes.get(d).partner >= 0) todo.add(now.dishes.get(d).partner);
            }
            return bits(all);
        }

        long needed(int set) {
            return isSet(set) ? yes(closure(set)) : no(1);
        }

        // by hand; burn: null without draws

        int[] burnState;
        int burnt;

        boolean draw(int d) {
            int b = now.dishes.get(d).burns;
            if (burnState == null || b == 0) return false;
            burnState[0] = (int) ((burnState[0] * 2903L + 8819) % 65536);
            boolean gone = burnState[0] / 8 % 16 < b;
            if (gone) burnt++;
            return gone;
        }

        List<Integer> group(int d) {
            List<Integer> g = new ArrayList<>(List.of(d));
            if (now.dishes.get(d).partner >= 0) g.add(now.dishes.get(d).partner);
            Collections.sort(g);
            return g;
        }

        boolean tryMake(Stove s, int d) {
            int with = bits(s.standing.keySet());
            int work = 0;
            Set<Integer> needs = new HashSet<>();
            for (int g : group(d)) {
                if (s.standing.containsKey(g)) return false;
                needs.addAll(now.dishes.get(g).needs);
                with |= 1 << g;
                work = Math.max(work, now.dishes.get(g).work);
            }
            if (!s.standing.keySet().containsAll(needs) || !fit(with, now.pots)) return false;
            s.work += work;
            for (int e : needs) if (now.dishes.get(e).once) s.standing.remove(e);
            for (int g : group(d)) if (!draw(g)) s.standing.put(g, s.steps + 1);
            return true;
        }

        boolean tryPour(Stove s, int d, int over) {
            Dish x = now.dishes.get(d);
            if (!x.poured || x.partner >= 0 || s.standing.containsKey(d)) return false;
            if (!s.standing.keySet().containsAll(x.needs) || !x.needs.contains(over)) return false;
            if (s.standing.get(over) < 0) return false;
            if (!fit(bits(s.standing.keySet()) - (1 << over) + (1 << d), now.pots)) return false;
            s.work += x.work;
            s.standing.remove(over);
            for (int e : x.needs) if (now.dishes.get(e).once) s.standing.remove(e);
            if (!draw(d)) s.standing.put(d, s.steps + 1);
            return true;
        }

        boolean tryStep(Stove s, String w, int d, int over) {
            switch (w) {
                case "make":
                    return tryMake(s, d);
                case "pour":
                    return tryPour(s, d, over);
                case "wash":
                    if (s.standing.getOrDefault(d, -1) < 0) return false;
                    s.standing.remove(d);
                    return true;
                case "trust":
                    if (s.standing.containsKey(d) || !fit(bits(s.standing.keySet()) | 1 << d, now.pots)) return false;
                    s.standing.put(d, -1);
                    return true;
                default:
                    if (s.standing.getOrDefault(d, 1) >= 0) return false;
                    if (!s.standing.keySet().containsAll(now.dishes.get(d).needs)) return false;
                    s.standing.remove(d);
                    return true;
            }
        }

        int age(Stove s) {
            s.steps++;
            int gone = 0;
            for (int d = 0; d < now.dishes.size(); d++) {
                int k = now.dishes.get(d).keeps;
                Integer since = s.standing.get(d);
                if (k > 0 && since != null && since >= 0 && s.steps == since + k) {
                    s.standing.remove(d);
                    gone++;
                }
            }
            return gone;
        }

        long hand(String w, int d, int over) {
            if (!isDish(d) || !isDish(over)) return no(1);
            burnState = null;
            if (!tryStep(now.stove, w, d, over)) return no(7);
            age(now.stove);
            return yes(bits(now.stove.standing.keySet()));
        }

        long keeps(int d) {
            if (!isDish(d)) return no(1);
            Integer since = now.stove.standing.get(d);
            if (since == null) return no(6);
            int k = now.dishes.get(d).keeps;
            return yes(k == 0 || since < 0 ? 0 : since + k - now.stove.steps);
        }

        long empty() {
            now.stove = new Stove();
            return yes(1);
        }

        // searches by trying all

        List<Integer> big(int pots) {
            return Collections.nCopies(pots, 9);
        }

        List<Move> moves(int s, List<Integer> pots) {
            List<Move> all = new ArrayList<>();
            int n = now.dishes.size();
            for (int kind = 0; kind < 3; kind++) {
                for (int d = 0; d < n; d++) {
                    Dish x = now.dishes.get(d);
                    if (kind == 2) {
                        if ((s >> d & 1) != 0) all.add(move(s & ~(1 << d), 0, 2, d, -1));
                        continue;
                    }
                    int g = bits(group(d));
                    int needs = 0;
                    int work = 0;
                    for (int e : group(d)) {
                        needs |= bits(now.dishes.get(e).needs);
                        work = Math.max(work, now.dishes.get(e).work);
                    }
                    if ((s & g) != 0 || (needs & s) != needs) continue;
                    int gone = 0;
                    for (int e = 0; e < n; e++) if ((needs >> e & 1) != 0 && now.dishes.get(e).once) gone |= 1 << e;
                    if (kind == 0 && fit(s | g, pots)) all.add(move((s | g) & ~gone, work, 0, d, -1));
                    if (kind == 1 && x.poured && x.partner < 0) {
                        for (int o = 0; o < n; o++) {
                            int t = (s & ~(1 << o)) | 1 << d;
                            if (x.needs.contains(o) && fit(t, pots)) all.add(move(t & ~gone, work, 1, d, o));
                        }
                    }
                }
            }
            return all;
        }

        Move move(int to, int work, int... told) {
            Move m = new Move();
            m.to = to;
            m.work = work;
            m.told = told;
            return m;
        }

        /** From nothing: the least work and then steps (or steps alone) to each state, till nothing changes. */
        long[] distances(List<Integer> pots, boolean byWork) {
            int n = 1 << now.dishes.size();
            long[] dist = new long[n];
            Arrays.fill(dist, Long.MAX_VALUE);
            dist[0] = 0;
            ArrayDeque<Integer> todo = new ArrayDeque<>(List.of(0));
            while (!todo.isEmpty()) {
                int s = todo.poll();
                for (Move m : moves(s, pots)) {
                    long k = dist[s] + (byWork ? m.work * 1000000L : 0) + 1;
                    if (k < dist[m.to]) {
                        dist[m.to] = k;
                        todo.add(m.to);
                    }
                }
            }
            return dist;
        }

        Map<String, long[]> known = new HashMap<>();
        State knownFor;

        long least(int goal, List<Integer> pots, boolean byWork) {
            if (knownFor == null || knownFor.dishes != now.dishes) known.clear();
            knownFor = now;
            List<Integer> sorted = new ArrayList<>(pots);
            Collections.sort(sorted);
            long[] dist = known.computeIfAbsent(sorted + " " + byWork, k -> distances(pots, byWork));
            long best = Long.MAX_VALUE;
            for (int s = 0; s < dist.length; s++) if ((s & goal) == goal) best = Math.min(best, dist[s]);
            return best;
        }

        long work(int goal) {
            if (!isSet(goal)) return no(1);
            long k = least(goal, now.pots, true);
            return k == Long.MAX_VALUE ? no(6) : yes(k / 1000000);
        }

        long steps2(int goal) {
            if (!isSet(goal)) return no(1);
            long k = least(goal, now.pots, false);
            return k == Long.MAX_VALUE ? no(6) : yes(k);
        }

        long curve(int goal, int pots) {
            if (!isSet(goal) || pots < 0 || pots > 12) return no(1);
            long k = least(goal, big(pots), true);
            return k == Long.MAX_VALUE ? no(6) : yes(k / 1000000);
        }

        long spared(int goal, int size) {
            if (!isSet(goal) || size < 1 || size > 9) return no(1);
            long k = least(goal, now.pots, true);
            if (k == Long.MAX_VALUE) return no(6);
            List<Integer> more = new ArrayList<>(now.pots);
            more.add(size);
            return yes(k / 1000000 - least(goal, more, true) / 1000000);
        }

        long fewest(int goal) {
            if (!isSet(goal)) return no(1);
            for (int p = 0; p <= 12; p++) if (least(goal, big(p), false) != Long.MAX_VALUE) return yes(p);
            return no(6);
        }

        /** What is left from each state to the goal, by turning all moves round until nothing changes. */
        long first(int goal) {
            if (!isSet(goal)) return no(1);
            int n = 1 << now.dishes.size();
            long[] left = new long[n];
            Arrays.fill(left, Long.MAX_VALUE / 2);
            for (int s = 0; s < n; s++) if ((s & goal) == goal) left[s] = 0;
            List<List<Move>> ways = new ArrayList<>();
            for (int s = 0; s < n; s++) ways.add(moves(s, now.pots));
            boolean changed = true;
            while (changed) {
                changed = false;
                for (int s = 0; s < n; s++) {
                    for (Move m : ways.get(s)) {
                        long k = left[m.to] + m.work * 1000000L + 1;
                        if (k < left[s]) {
                            left[s] = k;
                            changed = true;
                        }
                    }
                }
            }
            if (left[0] >= Long.MAX_VALUE / 2) return no(6);
            // A goal that could be reached only through sets that don't fit has no way from nothing.
            if (least(goal, now.pots, true) != left[0]) throw new IllegalStateException("model");
            List<int[]> told = new ArrayList<>();
            int s = 0;
            while (left[s] > 0) {
                for (Move m : ways.get(s)) {
                    if (left[m.to] + m.work * 1000000L + 1 == left[s]) {
                        told.add(m.told);
                        s = m.to;
                        break;
                    }
                }
            }
            first = told;
            return yes(told.size());
        }

        long firstAt(int k, int what) {
            if (what < 0 || what > 2) return no(1);
            if (k < 0 || k >= first.size()) return no(6);
            int v = first.get(k)[what];
            return v < 0 ? no(6) : yes(v);
        }

        long trustful(int goal) {
            if (!isSet(goal)) return no(1);
            int scope = closure(goal);
            if (Integer.bitCount(scope) > 8) return no(4);
            for (int p = 0; p <= 12; p++) if (trusting(goal, scope, p)) return yes(p);
            return no(6);
        }

        boolean trusting(int goal, int scope, int pots) {
            List<Integer> kept = now.pots;
            now.pots = big(pots);
            Set<Map<Integer, Integer>> seen = new HashSet<>();
            ArrayDeque<Map<Integer, Integer>> todo = new ArrayDeque<>();
            todo.add(new HashMap<>());
            seen.add(todo.peek());
            boolean found = false;
            burnState = null;
            while (!todo.isEmpty() && !found) {
                Stove s = new Stove();
                s.standing.putAll(todo.poll());
                if (trusted(s) == 0 && (bits(s.standing.keySet()) & goal) == goal) found = true;
                for (int d = 0; d < now.dishes.size(); d++) {
                    if ((scope >> d & 1) == 0) continue;
                    for (String w : List.of("make", "pour", "wash", "trust", "show")) {
                        for (int o = 0; o < (w.equals("pour") ? now.dishes.size() : 1); o++) {
                            Stove t = s.copy();
                            if (!tryStep(t, w, d, o)) continue;
                            Map<Integer, Integer> plain = new HashMap<>();
                            for (Map.Entry<Integer, Integer> e : t.standing.entrySet()) {
                                plain.put(e.getKey(), e.getValue() < 0 ? -1 : 0);
                            }
                            if (seen.add(plain)) todo.add(plain);
                        }
                    }
                }
            }
            now.pots = kept;
            return found;
        }

        long bound(int goal) {
            if (!isSet(goal)) return no(1);
            int most = Integer.bitCount(goal);
            int scope = closure(goal);
            for (int d = 0; d < now.dishes.size(); d++) {
                Dish x = now.dishes.get(d);
                if ((scope >> d & 1) != 0) most = Math.max(most, x.needs.size() + (x.poured ? 0 : 1));
            }
            return yes(most);
        }

        int tree(int d) {
            Dish x = now.dishes.get(d);
            if (x.needs.isEmpty()) return 1;
            List<Integer> below = new ArrayList<>();
            for (int e : x.needs) below.add(tree(e));
            Collections.sort(below, Collections.reverseOrder());
            int most = x.needs.size() + (x.poured ? 0 : 1);
            for (int i = 0; i < below.size(); i++) most = Math.max(most, below.get(i) + i);
            return most;
        }

        long treeRule(int d) {
            if (!isDish(d)) return no(1);
            int scope = closure(1 << d);
            for (int e = 0; e < now.dishes.size(); e++) {
                if ((scope >> e & 1) == 0) continue;
                int users = 0;
                for (int f = 0; f < now.dishes.size(); f++) {
                    if ((scope >> f & 1) != 0 && now.dishes.get(f).needs.contains(e)) users++;
                }
                if (users > 1 || now.dishes.get(e).once || now.dishes.get(e).partner >= 0) return no(7);
            }
            return yes(tree(d));
        }

        long rounds(int goal, int cooks) {
            if (!isSet(goal) || cooks < 1 || cooks > 4) return no(1);
            Set<Integer> reached = new HashSet<>(List.of(0));
            Set<Integer> fresh = new HashSet<>(List.of(0));
            int n = now.dishes.size();
            for (int round = 0; !fresh.isEmpty(); round++) {
                for (int s : fresh) if ((s & goal) == goal) return yes(round);
                Set<Integer> next = new HashSet<>();
                Set<Integer> washed = new HashSet<>();
                for (int s : fresh) for (int t = s; ; t = t - 1 & s) {
                    washed.add(t);
                    if (t == 0) break;
                }
                for (int s : washed) {
                    int ready = 0;
                    for (int d = 0; d < n; d++) {
                        Dish x = now.dishes.get(d);
                        int needs = bits(x.needs);
                        if ((s >> d & 1) == 0 && x.partner < 0 && (needs & s) == needs) ready |= 1 << d;
                    }
                    for (int with = ready; with != 0; with = with - 1 & ready) {
                        if (Integer.bitCount(with) > cooks || !fit(s | with, now.pots)) continue;
                        int t = s | with;
                        for (int d = 0; d < n; d++) {
                            if ((with >> d & 1) == 0) continue;
                            for (int e : now.dishes.get(d).needs) if (now.dishes.get(e).once) t &= ~(1 << e);
                        }
                        if (reached.add(t)) next.add(t);
                    }
                }
                fresh = next;
            }
            return no(6);
        }

        long fraction(long upper, long lower) {
            long g = java.math.BigInteger.valueOf(upper).gcd(java.math.BigInteger.valueOf(lower)).longValue();
            top = upper / g;
            bottom = lower / g;
            return yes(1);
        }

        long again(int goal) {
            if (!isSet(goal)) return deny(1);
            long k = least(goal, now.pots, true);
            int sum = 0;
            int scope = closure(goal);
            for (int d = 0; d < now.dishes.size(); d++) {
                if ((scope >> d & 1) == 0 || group(d).get(0) != d) continue;
                int w = 0;
                for (int e : group(d)) w = Math.max(w, now.dishes.get(e).work);
                sum += w;
            }
            return k == Long.MAX_VALUE || sum == 0 ? deny(6) : fraction(k / 1000000, sum);
        }

        // plans

        Stove pan;
        int met;
        int missed;
        int most;
        int spoilt;

        void run(List<Step> steps) {
            for (Step s : steps) {
                if (met == 900) throw new Over();
                met++;
                if (s.word.equals("stop")) throw new Over();
                if (s.word.equals("loop")) {
                    for (int i = 0; i < s.one; i++) run(s.inner);
                } else if (s.word.equals("when")) {
                    boolean holds = switch (s.test) {
                        case "stands" -> pan.standing.containsKey(s.one);
                        case "trusted" -> pan.standing.getOrDefault(s.one, 1) < 0;
                        default -> pan.standing.size() >= s.one;
                    };
                    if (holds) run(s.inner);
                } else {
                    if (pan.steps == 300) throw new Over();
                    if (!tryStep(pan, s.word, s.one, s.other)) {
                        missed++;
                        if (missedFirst < 0) missedFirst = s.number;
                    }
                    spoilt += age(pan);
                    most = Math.max(most, pan.standing.size());
                }
            }
        }

        void runAll(int seed) {
            pan = new Stove();
            met = 0;
            missed = 0;
            most = 0;
            spoilt = 0;
            burnt = 0;
            missedFirst = -1;
            burnState = seed < 0 ? null : new int[] {seed};
            try {
                run(now.plan);
            } catch (Over over) {
                met = 900;
            }
        }

        long cook(int seed) {
            if (seed < -1 || seed > 9999) return no(1);
            if (now.plan == null) return no(6);
            runAll(seed);
            cooked = new int[] {pan.work, pan.steps, missed, most, trusted(pan), burnt, spoilt};
            return yes(bits(pan.standing.keySet()));
        }

        long cooked(int what) {
            if (what < 0 || what > 6) return no(1);
            return cooked == null ? no(6) : yes(cooked[what]);
        }

        long judged() {
            if (now.plan == null) return no(6);
            runAll(-1);
            return missedFirst < 0 ? no(6) : yes(missedFirst);
        }

        long odds(int goal, int seed, int many) {
            if (!isSet(goal) || seed < 0 || many < 1 || many > 30 || (long) seed + many - 1 > 9999) return deny(1);
            if (now.plan == null) return deny(6);
            int good = 0;
            for (int i = 0; i < many; i++) {
                runAll(seed + i);
                if ((goal & (bits(pan.standing.keySet()) & ~trusted(pan))) == goal) good++;
            }
            return fraction(good, many);
        }

        long mark() {
            if (marks.size() == 3) return no(4);
            marks.push(now.copy());
            return yes(marks.size());
        }

        long back() {
            if (marks.isEmpty()) return no(6);
            now = marks.pop();
            return yes(marks.size());
        }
    }

    // ---- the draw of calls

    private static final String[] NAMES = {"a", "b", "c", "d", "e", "f", "g", "soup", "broth", "abcdefgh", "x", "z",
        "y", "wa", "po"};

    private static String drawMenu(Random r, int most) {
        StringBuilder s = new StringBuilder();
        int n = r.nextInt(8) == 0 ? r.nextInt(most + 1) : most - r.nextInt(most / 2 + 1);
        List<String> names = new ArrayList<>(Arrays.asList(NAMES));
        Collections.shuffle(names, r);
        boolean potsFirst = r.nextBoolean();
        boolean plainSizes = r.nextBoolean();
        if (potsFirst) s.append(drawPots(r, plainSizes));
        int density = 1 + r.nextInt(4);
        boolean pouring = r.nextInt(3) > 0;
        boolean using = r.nextInt(3) > 0;
        int dearest = new int[] {1, 3, 10, 99}[r.nextInt(4)];
        for (int d = 0; d < n; d++) {
            s.append("dish ").append(names.get(d)).append(" work ").append(r.nextInt(dearest + 1));
            if (!plainSizes && r.nextInt(3) == 0) s.append(" size ").append(1 + r.nextInt(3));
            if (r.nextInt(4) == 0) s.append(" keeps ").append(1 + r.nextInt(6));
            if (r.nextInt(3) == 0) s.append(" burns ").append(r.nextInt(16));
            StringBuilder from = new StringBuilder();
            for (int e = 0; e < d; e++) if (r.nextInt(density + d / 2) == 0) from.append(' ').append(names.get(e));
            if (from.length() > 0) {
                s.append(" from").append(from);
                if (pouring && r.nextInt(2) == 0) s.append(" poured");
            }
            if (using && r.nextInt(4) == 0) s.append(" once");
            s.append(r.nextInt(5) == 0 ? " ;\n" : ";");
        }
        if (n > 1 && r.nextInt(3) == 0) {
            for (int i = 0; i < 1 + r.nextInt(2); i++) {
                s.append("pair ").append(names.get(r.nextInt(n))).append(' ').append(names.get(r.nextInt(n))).append(';');
            }
        }
        if (!potsFirst) s.append(drawPots(r, plainSizes));
        return s.toString();
    }

    /** Few pots, and works far apart: what is dear is kept, and what is cheap is made again and again. */
    private static String drawTightMenu(Random r) {
        int n = 7 + r.nextInt(3);
        StringBuilder s = new StringBuilder("pots").append(" 1".repeat(3 + r.nextInt(3))).append(';');
        for (int d = 0; d < n; d++) {
            s.append("dish ").append((char) ('a' + d)).append(" work ").append(r.nextInt(r.nextBoolean() ? 4 : 100));
            Set<Integer> needs = new HashSet<>();
            for (int i = 0; i < 3 && d > 1; i++) needs.add(r.nextBoolean() ? d - 1 - r.nextInt(2) : r.nextInt(d));
            if (needs.size() > 2 && r.nextInt(3) > 0) needs.remove(needs.iterator().next());
            s.append(needs.isEmpty() ? "" : " from");
            for (int e : needs) s.append(' ').append((char) ('a' + e));
            s.append(!needs.isEmpty() && r.nextInt(4) == 0 ? " poured" : "").append(r.nextInt(9) == 0 ? " once;" : ";");
        }
        return s.toString();
    }

    private static String drawPots(Random r, boolean plain) {
        if (r.nextInt(12) == 0) return "";
        StringBuilder s = new StringBuilder("pots");
        int n = 1 + r.nextInt(8);
        for (int i = 0; i < n; i++) s.append(' ').append(plain ? 1 : 1 + r.nextInt(4));
        return s.append(";").toString();
    }

    private static String drawSteps(Random r, List<String> names, int depth, int many) {
        StringBuilder s = new StringBuilder();
        for (int i = 0; i < many; i++) {
            String a = names.get(r.nextInt(names.size()));
            String b = names.get(r.nextInt(names.size()));
            int kind = r.nextInt(22);
            if (kind < 11) s.append("make ").append(a).append(';');
            else if (kind < 13) s.append("pour ").append(a).append(" over ").append(b).append(';');
            else if (kind < 15) s.append("wash ").append(a).append(';');
            else if (kind < 16) s.append("trust ").append(a).append(';');
            else if (kind < 17) s.append("show ").append(a).append(';');
            else if (kind < 18) s.append(r.nextInt(6) == 0 ? "stop;" : "");
            else if (depth < 4) {
                if (kind < 20) s.append("loop ").append(1 + r.nextInt(r.nextInt(4) == 0 ? 99 : 4)).append(';');
                else {
                    s.append("when ");
                    int t = r.nextInt(3);
                    if (t == 0) s.append("full ").append(r.nextInt(5)).append(';');
                    else s.append(t == 1 ? "stands " : "trusted ").append(a).append(';');
                }
                s.append(drawSteps(r, names, depth + 1, r.nextInt(4))).append(" end;");
            }
        }
        return s.toString();
    }

    private static final String[] BITS = {"dish", "work", "size", "keeps", "burns", "from", "poured", "once", "pair",
        "pots", "make", "over", "end", "loop", "when", "full", ";", "7", "0", "100", "99999", "a", "b", "abcdefghi",
        "A", "\u00e9", "\u0000", " ", "\n", "\t", "stands", "trusted", "stop", "show", "trust", "wash", "pour"};

    private static String spoil(Random r, String s) {
        StringBuilder b = new StringBuilder(s);
        for (int i = 0; i <= r.nextInt(2); i++) {
            int at = r.nextInt(b.length() + 1);
            switch (r.nextInt(4)) {
                case 0:
                    if (at < b.length()) b.deleteCharAt(at);
                    break;
                case 1:
                    b.insert(at, BITS[r.nextInt(BITS.length)]);
                    break;
                case 2:
                    b.insert(at, " " + BITS[r.nextInt(BITS.length)] + " ");
                    break;
                default:
                    b.setLength(at);
                    break;
            }
        }
        return b.toString();
    }

    private static final class Run {
        final FourPots x = new FourPots();
        final Model m = new Model();
        final StringBuilder log = new StringBuilder();
        int calls;
        boolean wrong;

        void due(String call, long got, long want) {
            calls++;
            log.append(call).append(" = ").append(got).append('\n');
            if (got != want || x.status() != m.status || x.top() != m.top || x.bottom() != m.bottom) {
                wrong = true;
                log.append("  due is ").append(want).append(", status ").append(x.status()).append(" due ")
                    .append(m.status).append(", fraction ").append(x.top() + "/" + x.bottom()).append(" due ")
                    .append(m.top + "/" + m.bottom).append('\n');
            }
        }

        int feedText(String s) {
            byte[] b = s.getBytes(java.nio.charset.StandardCharsets.ISO_8859_1);
            byte[] full = Arrays.copyOf(b, (b.length + 19) / 20 * 20);
            java.nio.IntBuffer ints = java.nio.ByteBuffer.wrap(full).asIntBuffer();
            for (int i = 0; i < full.length; i += 20) {
                int[] v = new int[5];
                ints.get(v);
                due("feed", x.feed(v[0], v[1], v[2], v[3], v[4]), m.feed(v));
            }
            log.append(s).append('\n');
            return b.length;
        }

        void faults() {
            for (int w = -1; w < 3; w++) due("fault(" + w + ")", x.fault(w), m.fault(w));
        }

        void takeMenu(String s) {
            int n = feedText(s);
            due("menu(" + n + ")", x.menu(n), m.menu(n));
            faults();
        }

        void takePlan(String s) {
            int n = feedText(s);
            due("plan(" + n + ")", x.plan(n), m.plan(n));
            faults();
        }
    }

    private static int near(Random r, int least, int most) {
        int k = r.nextInt(40);
        return k == 0 ? least - 1 : k == 1 ? most + 1 : least + r.nextInt(Math.max(1, most - least + 1));
    }

    private static int drawSet(Random r, int n) {
        if (r.nextInt(40) == 0) return r.nextBoolean() ? -1 : 1 << n;
        if (n == 0) return 0;
        switch (r.nextInt(6)) {
            case 0:
                return r.nextInt(1 << n);
            case 1:
                return r.nextInt(1 << n) & r.nextInt(1 << n);
            case 2:
                return 1 << n - 1;
            case 3:
                return 1 << r.nextInt(n);
            default:
                return 1 << Math.max(r.nextInt(n), r.nextInt(n)) | 1 << Math.max(r.nextInt(n), r.nextInt(n));
        }
    }

    private static final String[] BY_HAND = {"make", "make", "make", "pour", "pour", "wash", "trust", "show"};

    /** Often one that can be done: what is drawn blindly mostly can't. */
    private static void drawHand(Random r, Run run) {
        Model m = run.m;
        int n = m.now.dishes.size();
        int d = near(r, 0, n - 1);
        int o = near(r, 0, n - 1);
        String w = BY_HAND[r.nextInt(BY_HAND.length)];
        m.burnState = null;
        for (int i = 0; i < (r.nextInt(5) == 0 ? 0 : 30) && n > 0; i++) {
            String word = BY_HAND[r.nextInt(BY_HAND.length)];
            int a = r.nextInt(n);
            int b = r.nextInt(n);
            if (m.tryStep(m.now.stove.copy(), word, a, b)) {
                w = word;
                d = a;
                o = b;
                break;
            }
        }
        doHand(run, w, d, o);
        int k = r.nextInt(6);
        run.due("told(" + k + ")", run.x.told(k), m.told(k));
        int some = near(r, 0, n - 1);
        run.due("keeps(" + some + ")", run.x.keeps(some), m.keeps(some));
    }

    private static void doHand(Run run, String w, int d, int o) {
        FourPots x = run.x;
        Model m = run.m;
        switch (w) {
            case "pour":
                run.due("pourOver(" + d + ", " + o + ")", x.pourOver(d, o), m.hand("pour", d, o));
                break;
            case "wash":
                run.due("wash(" + d + ")", x.wash(d), m.hand("wash", d, d));
                break;
            case "trust":
                run.due("trust(" + d + ")", x.trust(d), m.hand("trust", d, d));
                break;
            case "show":
                run.due("show(" + d + ")", x.show(d), m.hand("show", d, d));
                break;
            default:
                run.due("make(" + d + ")", x.make(d), m.hand("make", d, d));
                break;
        }
    }

    private static void drawLeast(Random r, Run run, int goal, int n) {
        FourPots x = run.x;
        Model m = run.m;
        int k;
        switch (r.nextInt(11)) {
            case 0:
                run.due("work(" + goal + ")", x.work(goal), m.work(goal));
                break;
            case 1:
                run.due("steps(" + goal + ")", x.steps(goal), m.steps2(goal));
                break;
            case 2:
                run.due("first(" + goal + ")", x.first(goal), m.first(goal));
                int told = m.status == 0 ? m.first.size() : -1;
                for (int i = -1; i <= told; i++) {
                    for (int v = 0; v < 3; v++) {
                        run.due("firstAt(" + i + ", " + v + ")", x.firstAt(i, v), m.firstAt(i, v));
                    }
                }
                int w = near(r, 0, 2);
                run.due("firstAt(0, " + w + ")", x.firstAt(0, w), m.firstAt(0, w));
                break;
            case 3:
                run.due("fewest(" + goal + ")", x.fewest(goal), m.fewest(goal));
                break;
            case 4:
                k = near(r, 0, 12);
                run.due("curve(" + goal + ", " + k + ")", x.curve(goal, k), m.curve(goal, k));
                break;
            case 5:
                run.due("trustful(" + goal + ")", x.trustful(goal), m.trustful(goal));
                break;
            case 6:
                run.due("bound(" + goal + ")", x.bound(goal), m.bound(goal));
                break;
            case 7:
                k = near(r, 0, n - 1);
                run.due("treeRule(" + k + ")", x.treeRule(k), m.treeRule(k));
                break;
            case 8:
                k = near(r, 1, 4);
                run.due("rounds(" + goal + ", " + k + ")", x.rounds(goal, k), m.rounds(goal, k));
                break;
            case 9:
                k = near(r, 1, 9);
                run.due("spared(" + goal + ", " + k + ")", x.spared(goal, k), m.spared(goal, k));
                break;
            default:
                run.due("again(" + goal + ")", x.again(goal) ? 1 : 0, m.again(goal));
                break;
        }
    }

    private static void drawPlan(Random r, Run run, int goal, List<String> names) {
        FourPots x = run.x;
        Model m = run.m;
        int k = r.nextInt(3) == 0 ? -1 : r.nextInt(3) == 0 ? near(r, 9960, 9999) : near(r, 0, 9999);
        switch (run.m.now.plan == null && r.nextInt(8) > 0 ? 0 : r.nextInt(6)) {
            case 0:
                List<String> some = names.isEmpty() ? List.of("a", "b") : names;
                String s = drawSteps(r, some, 0, r.nextInt(12));
                if (s.length() > 300 && r.nextInt(9) > 0) s = s.substring(0, s.lastIndexOf(';', 299) + 1);
                run.takePlan(r.nextInt(5) == 0 ? spoil(r, s) : s);
                break;
            case 1:
            case 2:
                run.due("cook(" + k + ")", x.cook(k), m.cook(k));
                for (int w = 0; w < 7; w++) run.due("cooked(" + w + ")", x.cooked(w), m.cooked(w));
                int w = near(r, 0, 6);
                run.due("cooked(" + w + ")", x.cooked(w), m.cooked(w));
                break;
            case 3:
                run.due("judged()", x.judged(), m.judged());
                break;
            default:
                int many = near(r, 1, 30);
                k = k < 0 && r.nextInt(5) > 0 ? 3 : k;
                run.due("odds(" + goal + ", " + k + ", " + many + ")", x.odds(goal, k, many) ? 1 : 0,
                    m.odds(goal, k, many));
                break;
        }
    }

    private static void drawTray(Random r, Run run) {
        FourPots x = run.x;
        Model m = run.m;
        int t = near(r, 0, 3);
        int u = near(r, 0, 3);
        int p = near(r, 0, 12);
        int q = near(r, 0, 12);
        boolean bare = t >= 0 && t < 4 && run.m.trays[t] == null && r.nextInt(4) > 0;
        switch (bare ? 0 : r.nextInt(9)) {
            case 0:
                int sort = r.nextInt(2) * r.nextInt(5);
                int many = r.nextInt(4) == 0 ? near(r, 0, 60) : r.nextInt(14);
                run.due("tray(" + t + ", " + sort + ", " + many + ")", x.tray(t, sort, many) ? 1 : 0,
                    m.tray(t, sort, many));
                break;
            case 1:
            case 2:
                long v = r.nextLong() >> r.nextInt(64);
                run.due("write(" + t + ", " + p + ", " + v + ")", x.write(t, p, v) ? 1 : 0, m.write(t, p, v));
                break;
            case 3:
                run.due("read(" + t + ", " + p + ")", x.read(t, p), m.read(t, p));
                break;
            default:
                int k = r.nextInt(20) == 0 ? Integer.MAX_VALUE : near(r, 0, 6);
                run.due("pour(" + t + ", " + p + ", " + u + ", " + q + ", " + k + ")",
                    x.pour(t, p, u, q, k) ? 1 : 0, m.pour(t, p, u, q, k));
                for (int i = 0; i < 13 && m.status == 0; i++) {
                    run.due("read(" + u + ", " + i + ")", x.read(u, i), m.read(u, i));
                }
                break;
        }
    }

    private static void drawCall(Random r, Run run, int most) {
        Model m = run.m;
        FourPots x = run.x;
        int n = m.now.dishes.size();
        List<String> names = new ArrayList<>();
        for (Dish d : m.now.dishes) names.add(d.name);
        int d = near(r, 0, n - 1);
        int goal = drawSet(r, n);
        int k = r.nextInt(100);
        if (k < (n == 0 ? 30 : 2)) {
            String s = drawMenu(r, most);
            run.takeMenu(r.nextInt(4) == 0 ? spoil(r, s) : s);
        } else if (k < 30) {
            drawHand(r, run);
        } else if (k < 55) {
            drawLeast(r, run, goal, n);
        } else if (k < 72) {
            drawPlan(r, run, goal, names);
        } else if (k < 82) {
            drawTray(r, run);
        } else if (k < 84) {
            run.due("mark()", x.mark(), m.mark());
        } else if (k < 86) {
            run.due("back()", x.back(), m.back());
        } else if (k < 88) {
            run.due("empty()", x.empty() ? 1 : 0, m.empty());
        } else if (k < 90) {
            int w = near(r, 0, 5);
            run.due("told(" + w + ")", x.told(w), m.told(w));
        } else if (k < 94) {
            int w = near(r, 0, 8);
            run.due("dish(" + d + ", " + w + ")", x.dish(d, w), m.dish(d, w));
        } else if (k < 95) {
            int w = near(r, 0, 8);
            run.due("pot(" + w + ")", x.pot(w), m.pot(w));
        } else if (k < 97) {
            run.due("fits(" + goal + ")", x.fits(goal), m.fits(goal));
        } else if (k < 99) {
            run.due("needed(" + goal + ")", x.needed(goal), m.needed(goal));
        } else {
            run.due("menu(-1)", x.menu(-1), m.menu(-1));
            run.due("plan(901)", x.plan(901), m.plan(901));
        }
    }

    private static boolean runOnce(long seed, int most) {
        Random r = new Random(seed);
        Run run = new Run();
        if (r.nextInt(10) > 0) run.takeMenu(drawMenu(r, most));
        while (run.calls < 470 && !run.wrong) drawCall(r, run, most);
        if (run.wrong) {
            System.out.println("seed " + seed + ", dishes at most " + most + ":\n" + run.log);
        }
        return !run.wrong;
    }

    private static boolean runTight(long seed) {
        Random r = new Random(seed);
        Run run = new Run();
        run.takeMenu(drawTightMenu(r));
        int n = run.m.now.dishes.size();
        while (run.calls < 400 && !run.wrong) drawLeast(r, run, drawSet(r, n), n);
        if (run.wrong) {
            System.out.println("tight, seed " + seed + ":\n" + run.log);
        }
        return !run.wrong;
    }

    public static void main(String[] args) {
        int many = args.length > 0 ? Integer.parseInt(args[0]) : 400;
        int largest = args.length > 1 ? Integer.parseInt(args[1]) : 6;
        long from = args.length > 2 ? Long.parseLong(args[2]) : 1;
        for (long seed = from; seed < from + many; seed++) {
            if (!runOnce(seed, largest)) System.exit(1);
        }
        for (long seed = from; seed < from + many / 4; seed++) {
            if (!runTight(seed)) System.exit(1);
        }
        if (args.length == 0) {
            for (long seed = 1; seed <= 6; seed++) {
                if (!runOnce(seed, 12)) System.exit(1);
            }
        }
        System.out.println("class and model agree");
    }
}
