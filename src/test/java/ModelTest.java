import java.util.ArrayList;
import java.util.Arrays;
import java.util.Collections;
import java.util.List;
import java.util.NoSuchElementException;
import java.util.Random;
import java.util.TreeSet;

/** Long runs of calls by chance (of a fixed seed), each answer held against a plain model written from the document alone. */
public final class ModelTest {
    static int wrong = 0;
    static long calls = 0;

    // ------------------------------------------------------------------ the model

    /** What a text refused tells. */
    static final class Fault extends RuntimeException {
        final int kind;
        final int place;
        Fault(int kind, int place) { this.kind = kind; this.place = place; }
    }

    interface Sum { long of(long[] env); }
    interface Truth { boolean of(long[] env); }

    record Token(String text, int place) { }
    record Well(int round, int up, int deep) { }
    record House(int need, TreeSet<Integer> from) { }

    static final class Country {
        int lines = 0;
        int hour = 0;
        Truth law = null;
        final List<Well> wells = new ArrayList<>();
        final List<House> houses = new ArrayList<>();
        final TreeSet<Integer> pairs = new TreeSet<>(); // lesser * 100 + greater
        final List<Integer> shifts = new ArrayList<>();
        final List<Integer> waters = new ArrayList<>();

        boolean beside(int a, int b) { return pairs.contains(Math.min(a, b) * 100 + Math.max(a, b)); }
    }

    /** The changing part, copied whole whenever it is kept. */
    static final class Now {
        final Country c;
        int hour;
        int[] shift;
        int[] water;
        boolean[] sour;

        Now(Country c) {
            this.c = c;
            hour = c.hour;
            shift = c.shifts.stream().mapToInt(i -> i).toArray();
            water = c.waters.stream().mapToInt(i -> i).toArray();
            sour = new boolean[c.wells.size()];
        }

        Now(Now o) {
            c = o.c;
            hour = o.hour;
            shift = o.shift.clone();
            water = o.water.clone();
            sour = o.sour.clone();
        }

        int size() { return c.wells.size(); }
        int phase(int w) { return (hour + shift[w]) % c.wells.get(w).round(); }
        boolean up(int w) { return phase(w) < c.wells.get(w).up(); }
        int ups() { int s = 0; for (int w = 0; w < size(); w++) if (up(w)) s |= 1 << w; return s; }
        int all() { return Arrays.stream(water).sum(); }

        void setPhase(int w, int phase) {
            for (int s = 0; s < c.wells.get(w).round(); s++) {
                shift[w] = s;
                if (phase(w) == phase) return;
            }
            throw new IllegalStateException("model");
        }

        void pass() {
            boolean[] asleep = new boolean[size()];
            for (int w = 0; w < size(); w++) asleep[w] = !up(w);
            for (int w = 0; w < size(); w++) if (asleep[w]) water[w] = Math.min(water[w] + 1, c.wells.get(w).deep());
            for (int p : c.pairs) {
                int a = p / 100;
                int b = p % 100;
                if (!asleep[a] || !asleep[b]) continue;
                int high = water[a] > water[b] ? a : b;
                int low = high == a ? b : a;
                if (water[high] - water[low] >= 2 && water[low] + 1 <= c.wells.get(low).deep()) {
                    water[high]--;
                    water[low]++;
                }
            }
            hour++;
            for (int w = 0; w < size(); w++) if (!up(w)) sour[w] = false;
        }

        Now later(int n) {
            Now l = new Now(this);
            for (int i = 0; i < n; i++) l.pass();
            return l;
        }

        boolean law(int a, int b, int n) {
            if (c.law == null) return false;
            int many = 0;
            for (int w = 0; w < size(); w++) if (w != a && c.beside(a, w)) many++;
            return c.law.of(new long[] {c.wells.get(a).deep(), c.wells.get(b).deep(), water[a], water[b], n, hour % 24, phase(b), many});
        }

        boolean wakes(int a, int b, int n) { return a != b && c.beside(a, b) && !up(b) && law(a, b, n); }

        /** Steps till each well is woken, 0 for those that aren't; spared ones are awake already. */
        int[] steps(int a, int n, int spared) {
            int[] step = new int[size()];
            for (int round = 1; round <= size() + 1; round++) {
                for (int x = 0; x < size(); x++) {
                    if (round == 1 ? x != a : step[x] != round - 1) continue;
                    for (int b = 0; b < size(); b++) {
                        if (b != a && step[b] == 0 && (spared >> b & 1) == 0 && wakes(x, b, round == 1 ? n : 0)) step[b] = round;
                    }
                }
            }
            return step;
        }

        int chain(int a, int n, int spared) {
            int[] step = steps(a, n, spared);
            int s = 0;
            for (int w = 0; w < size(); w++) if (step[w] > 0) s |= 1 << w;
            return s;
        }

        int whyDraw(int w, int n) {
            if (w < 0 || w >= size() || n < 1 || n > 99) return 1;
            if (!up(w)) return 2;
            if (sour[w]) return 3;
            return water[w] < n ? 4 : 0;
        }

        int whyLull(int w) {
            if (w < 0 || w >= size()) return 1;
            if (!up(w)) return 2;
            return c.wells.get(w).up() == c.wells.get(w).round() ? 3 : 0;
        }

        int whyCoin(int w) {
            if (w < 0 || w >= size()) return 1;
            return up(w) ? 2 : 0;
        }

        void wakeAll(int set) {
            for (int w = 0; w < size(); w++) {
                if ((set >> w & 1) == 0) continue;
                setPhase(w, 0);
                if (Integer.bitCount(set) > 1) sour[w] = true;
            }
        }

        int draw(int w, int n) {
            int s = chain(w, n, 0);
            wakeAll(s);
            water[w] -= n;
            return Integer.bitCount(s);
        }

        int coin(int w) {
            int s = chain(w, 0, 0);
            setPhase(w, 0);
            wakeAll(s);
            return Integer.bitCount(s);
        }

        int thunder() {
            int s = (1 << size()) - 1 & ~ups();
            wakeAll(s);
            return Integer.bitCount(s);
        }

        /** Does a told deed, or answers why not. */
        int told(long v) {
            if (v == -1) { pass(); return 0; }
            if (v == 3000) { thunder(); return 0; }
            if (v >= 0 && v <= 999) {
                int why = whyDraw((int) (v / 100), (int) (v % 100));
                if (why == 0) draw((int) (v / 100), (int) (v % 100));
                return why;
            }
            if (v >= 2000 && v <= 2099) {
                int w = (int) v - 2000;
                int why = whyLull(w);
                if (why == 0) setPhase(w, c.wells.get(w).up());
                return why;
            }
            if (v >= 2100 && v <= 2199) {
                int w = (int) v - 2100;
                int why = whyCoin(w);
                if (why == 0) coin(w);
                return why;
            }
            return 1;
        }

        int quietWell(int h) {
            House house = c.houses.get(h);
            for (int w : house.from()) {
                if (whyDraw(w, house.need()) == 0 && chain(w, house.need(), 0) == 0) return w;
            }
            return -1;
        }
    }

    /** Reads a text by tokens; the first fault along the text is thrown. */
    static final class Parser {
        final String text;
        final Country c = new Country();
        int at = 0;
        Token token;

        Parser(String text) { this.text = text; next(); }

        void next() {
            while (at < text.length() && (text.charAt(at) == 10 || text.charAt(at) == 32)) at++;
            if (at == text.length()) { token = new Token("", at); return; }
            int from = at;
            String rest = text.substring(at);
            java.util.regex.Matcher m = java.util.regex.Pattern.compile("^([a-z]+|[0-9]+|[;+\\-*()\\[\\]=<>])").matcher(rest);
            if (!m.find()) throw new Fault(1, from);
            if (Character.isDigit(m.group().charAt(0)) && m.group().length() > 3) throw new Fault(1, from);
            at += m.end();
            token = new Token(m.group(), from);
        }

        boolean is(String s) { return token.text().equals(s); }
        Fault fault(int kind) { return new Fault(kind, token.place()); }
        void take(String s) { if (!is(s)) throw fault(2); next(); }
        boolean number() { return !is("") && Character.isDigit(token.text().charAt(0)); }

        int take(int least, int most) {
            if (!number()) throw fault(2);
            int v = Integer.parseInt(token.text());
            if (v < least || v > most) throw fault(3);
            next();
            return v;
        }

        Country all() {
            while (!is("")) { line(); take(";"); c.lines++; }
            return c;
        }

        void line() {
            switch (token.text()) {
                case "well" -> well();
                case "beside" -> {
                    next();
                    int a = take(0, c.wells.size() - 1);
                    if (number() && Integer.parseInt(token.text()) == a) throw fault(3);
                    int b = take(0, c.wells.size() - 1);
                    c.pairs.add(Math.min(a, b) * 100 + Math.max(a, b));
                }
                case "house" -> {
                    if (c.houses.size() == 6) throw fault(4);
                    next();
                    int need = take(1, 99);
                    take("from");
                    TreeSet<Integer> from = new TreeSet<>();
                    do from.add(take(0, c.wells.size() - 1)); while (number());
                    c.houses.add(new House(need, from));
                }
                case "wakes" -> { next(); c.law = truth(0); }
                case "hour" -> { next(); c.hour = take(0, 999); }
                default -> throw fault(2);
            }
        }

        void well() {
            if (c.wells.size() == 10) throw fault(4);
            next();
            take("every");
            int round = take(2, 12);
            take("awake");
            int up = take(1, round);
            int shift = 0;
            int deep = 10;
            if (is("shift")) { next(); shift = take(0, round - 1); }
            if (is("deep")) { next(); deep = take(1, 99); }
            int water = deep;
            if (is("water")) { next(); water = take(0, deep); }
            c.wells.add(new Well(round, up, deep));
            c.shifts.add(shift);
            c.waters.add(water);
        }

        Truth truth(int depth) {
            Truth t = both(depth);
            while (is("or")) { next(); Truth l = t; Truth r = both(depth); t = e -> l.of(e) || r.of(e); }
            return t;
        }

        Truth both(int depth) {
            Truth t = unit(depth);
            while (is("and")) { next(); Truth l = t; Truth r = unit(depth); t = e -> l.of(e) && r.of(e); }
            return t;
        }

        void deeper(int depth) { if (depth == 6) throw fault(4); next(); }

        Truth unit(int depth) {
            if (is("not")) { deeper(depth); Truth t = unit(depth + 1); return e -> !t.of(e); }
            if (is("[")) { deeper(depth); Truth t = truth(depth + 1); take("]"); return t; }
            Sum l = sum(depth);
            String s = token.text();
            if (!s.equals("=") && !s.equals("<") && !s.equals(">")) throw fault(2);
            next();
            Sum r = sum(depth);
            return e -> { int k = Long.compare(l.of(e), r.of(e)); return s.equals("=") ? k == 0 : s.equals("<") ? k < 0 : k > 0; };
        }

        static long cap(long v) { return Math.max(-1_000_000, Math.min(1_000_000, v)); }

        Sum sum(int depth) {
            Sum s = term(depth);
            while (is("+") || is("-")) {
                boolean plus = is("+");
                next();
                Sum l = s;
                Sum r = term(depth);
                s = e -> cap(plus ? l.of(e) + r.of(e) : l.of(e) - r.of(e));
            }
            return s;
        }

        Sum term(int depth) {
            Sum s = atom(depth);
            while (is("*")) { next(); Sum l = s; Sum r = atom(depth); s = e -> cap(l.of(e) * r.of(e)); }
            return s;
        }

        Sum atom(int depth) {
            if (is("(")) { deeper(depth); Sum s = sum(depth + 1); take(")"); return s; }
            if (number()) { int v = Integer.parseInt(token.text()); next(); return e -> v; }
            int k = List.of("da", "db", "wa", "wb", "n", "hour", "phase", "many").indexOf(token.text());
            if (k < 0) throw fault(2);
            next();
            return e -> e[k];
        }
    }

    record Kept(Now now, List<Now> past) { }

    static final class Model {
        byte[] tape = new byte[0];
        int faultKind = 0;
        int faultPlace = -1;
        Now now = new Now(new Country());
        List<Now> past = new ArrayList<>();
        final Kept[] images = new Kept[3];
        final long[][] trays = new long[4][];
        final int[] sorts = new int[4];

        void remember() { past.add(new Now(now)); if (past.size() > 10) past.remove(0); }
        void needWell(int w) { if (w < 0 || w >= now.size()) throw new NoSuchElementException(); }
        void needHouse(int h) { if (h < 0 || h >= now.c.houses.size()) throw new NoSuchElementException(); }
        void need(boolean b) { if (!b) throw new IllegalArgumentException(); }
        void noise(int n) { need(n >= 0 && n <= 99); }

        int feed(int[] five) {
            if (tape.length > 880) return -1;
            byte[] longer = Arrays.copyOf(tape, tape.length + 20);
            java.nio.ByteBuffer b = java.nio.ByteBuffer.wrap(longer);
            b.position(tape.length);
            for (int v : five) b.putInt(v);
            tape = longer;
            return tape.length;
        }

        int hills(int n) {
            need(n >= 0 && n <= tape.length);
            String text = new String(tape, 0, n, java.nio.charset.StandardCharsets.ISO_8859_1);
            tape = new byte[0];
            try {
                Country c = new Parser(text).all();
                faultKind = 0;
                faultPlace = -1;
                now = new Now(c);
                past = new ArrayList<>();
                return c.lines;
            } catch (Fault f) {
                faultKind = f.kind;
                faultPlace = f.place;
                return -10 - f.kind;
            }
        }

        int fault(int what) { return what == 0 ? faultKind : what == 1 ? faultPlace : -1; }

        int well(int w, int what) {
            needWell(w);
            need(what >= 0 && what <= 8);
            Well x = now.c.wells.get(w);
            int near = 0;
            for (int b = 0; b < now.size(); b++) if (b != w && now.c.beside(w, b)) near |= 1 << b;
            return new int[] {x.round(), x.up(), now.shift[w], x.deep(), now.water[w], now.phase(w), now.up(w) ? 1 : 0, now.sour[w] ? 1 : 0, near}[what];
        }

        int house(int h, int what) {
            needHouse(h);
            need(what == 0 || what == 1);
            House x = now.c.houses.get(h);
            return what == 0 ? x.need() : x.from().stream().mapToInt(w -> 1 << w).sum();
        }

        int draw(int w, int n) {
            int why = now.whyDraw(w, n);
            if (why > 0) return -why;
            remember();
            return now.draw(w, n);
        }

        int lull(int w) {
            int why = now.whyLull(w);
            if (why > 0) return -10 - why;
            remember();
            now.setPhase(w, now.c.wells.get(w).up());
            return now.shift[w];
        }

        int coin(int w) {
            int why = now.whyCoin(w);
            if (why > 0) return -why;
            remember();
            return now.coin(w);
        }

        int hours(int n) {
            need(n >= 1 && n <= 99);
            remember();
            int before = now.all();
            now = now.later(n);
            return now.all() - before;
        }

        int undo(int n) {
            need(n >= 1 && n <= 10 && n <= past.size());
            for (int i = 0; i < n; i++) now = past.remove(past.size() - 1);
            return past.size();
        }

        long[] tray(int t) {
            if (t < 0 || t > 3) throw new NoSuchElementException();
            if (trays[t] == null) throw new IllegalStateException();
            return trays[t];
        }

        int judge(int t, int what) {
            long[] row = tray(t);
            need(what >= 0 && what <= 3);
            Now x = new Now(now);
            int place = -1;
            int why = 0;
            for (int i = 0; i < row.length; i++) {
                why = x.told(row[i]);
                if (why > 0) { place = i; break; }
            }
            return new int[] {place, why, x.all(), x.ups()}[what];
        }

        boolean tryTold(long v) {
            Now before = new Now(now);
            if (now.told(v) > 0) return false;
            past.add(before);
            if (past.size() > 10) past.remove(0);
            return true;
        }

        int perform(int t) {
            int done = 0;
            for (long v : tray(t)) { if (!tryTold(v)) break; done++; }
            return done;
        }

        int x;
        int number() { x = 1103515245 * x + 12345; return x >>> 16; }

        int year(int seed, int times) {
            need(times >= 1 && times <= 30);
            x = seed;
            int done = 0;
            for (int i = 0; i < times; i++) {
                int k = number() % 6;
                long v;
                if (k <= 1) v = -1;
                else if (now.size() == 0) continue;
                else {
                    int w = number() % now.size();
                    v = k <= 3 ? 100 * w + 1 + number() % 5 : k == 4 ? 2000 + w : 2100 + w;
                }
                if (tryTold(v)) done++;
            }
            return done;
        }

        int joint() {
            int t = 1;
            while (true) {
                int u = t;
                if (now.c.wells.stream().allMatch(w -> u % w.round() == 0)) return t;
                t++;
            }
        }

        int upsIn(int t) {
            int s = 0;
            for (int w = 0; w < now.size(); w++) if ((now.hour + t + now.shift[w]) % now.c.wells.get(w).round() < now.c.wells.get(w).up()) s |= 1 << w;
            return s;
        }

        int together(int set, boolean awake) {
            need((set & ~((1 << now.size()) - 1)) == 0);
            int j = joint();
            for (int t = 0; t < j; t++) if ((awake ? upsIn(t) & set : ~upsIn(t) & set) == set) return t;
            return -1;
        }

        int wakesIn(int w) {
            needWell(w);
            int t = 0;
            while ((upsIn(t) >> w & 1) == 0) t++;
            return t;
        }

        int stays(int w) {
            needWell(w);
            for (int t = 1; t < 99; t++) if ((upsIn(t) >> w & 1) != (upsIn(0) >> w & 1)) return t;
            return -1;
        }

        int withAwake(int n) {
            need(n >= 0 && n <= now.size());
            int k = 0;
            int j = joint();
            for (int t = 0; t < j; t++) if (Integer.bitCount(upsIn(t)) == n) k++;
            return k;
        }

        int stillest(int what) {
            need(what == 0 || what == 1);
            int least = 99;
            int at = 0;
            int j = joint();
            for (int t = 0; t < j; t++) if (Integer.bitCount(upsIn(t)) < least) { least = Integer.bitCount(upsIn(t)); at = t; }
            return what == 0 ? at : least;
        }

        int chain(int w, int n) { needWell(w); noise(n); return now.chain(w, n, 0); }

        int wakes(int a, int b, int n) {
            needWell(a);
            needWell(b);
            need(a != b);
            noise(n);
            return now.wakes(a, b, n) ? 1 : 0;
        }

        int quietest(int w) {
            needWell(w);
            int best = 0;
            for (int n = 1; n <= 99; n++) if (now.whyDraw(w, n) == 0 && now.chain(w, n, 0) == 0) best = n;
            return best;
        }

        int wakers(int w, int n) {
            needWell(w);
            noise(n);
            int s = 0;
            for (int a = 0; a < now.size(); a++) if (now.up(a) && (now.chain(a, n, 0) >> w & 1) == 1) s |= 1 << a;
            return s;
        }

        int leastNoise(int w, int what) {
            needWell(w);
            need(what == 0 || what == 1);
            for (int n = 0; n <= 99; n++) for (int a = 0; a < now.size(); a++) {
                if (a != w && now.up(a) && (now.chain(a, n, 0) >> w & 1) == 1) return what == 0 ? n : a;
            }
            return -1;
        }

        int shield(int a, int n, int b, int what) {
            needWell(a);
            needWell(b);
            noise(n);
            need(what == 0 || what == 1);
            int woken = now.chain(a, n, 0);
            for (int size = 0; size <= 10; size++) for (int s = 0; s < 1024; s++) {
                if (Integer.bitCount(s) != size || (s & ~woken) != 0 || (s >> b & 1) == 1) continue;
                if ((now.chain(a, n, s) >> b & 1) == 0) return what == 0 ? size : s;
            }
            return -1;
        }

        int loudest(int n) {
            noise(n);
            int best = -1;
            for (int w = now.size() - 1; w >= 0; w--) {
                if (best < 0 || Integer.bitCount(now.chain(w, n, 0)) >= Integer.bitCount(now.chain(best, n, 0))) best = w;
            }
            return best;
        }

        int chorus(int n, int what) {
            noise(n);
            need(what == 0 || what == 1);
            int ups = now.ups();
            int[] reach = new int[now.size()];
            for (int a = 0; a < now.size(); a++) reach[a] = now.chain(a, n, 0);
            for (int size = 0; size <= now.size(); size++) for (int s = 0; s < 1 << now.size(); s++) {
                if (Integer.bitCount(s) != size || (s & ~ups) != 0) continue;
                int woken = 0;
                for (int a = 0; a < now.size(); a++) if ((s >> a & 1) == 1) woken |= reach[a];
                if ((woken | ups) == (1 << now.size()) - 1) return what == 0 ? size : s;
            }
            return -1;
        }

        int yawns(int a, int n, int b) { needWell(a); needWell(b); noise(n); return now.steps(a, n, 0)[b]; }

        int loudHour(int w, int n) {
            needWell(w);
            noise(n);
            int best = -1;
            int at = 0;
            for (int t = 0; t <= 40; t++) {
                int k = Integer.bitCount(now.later(t).chain(w, n, 0));
                if (k > best) { best = k; at = t; }
            }
            return at;
        }

        long quietHours(int h) {
            needHouse(h);
            long s = 0;
            for (int t = 0; t <= 40; t++) if (now.later(t).quietWell(h) >= 0) s |= 1L << t;
            return s;
        }

        int quietWell(int h, int n) { needHouse(h); need(n >= 0 && n <= 40); return now.later(n).quietWell(h); }

        /** Whether house h finds an hour, pushing others on (Kuhn). */
        boolean seat(int h, long[] open, int[] owner, boolean[] tried) {
            for (int t = 0; t <= 40; t++) {
                if ((open[h] >> t & 1) == 0 || tried[t]) continue;
                tried[t] = true;
                if (owner[t] < 0 || seat(owner[t], open, owner, tried)) { owner[t] = h; return true; }
            }
            return false;
        }

        int matched(long[] open) {
            int[] owner = new int[41];
            Arrays.fill(owner, -1);
            int k = 0;
            for (int h = 0; h < open.length; h++) if (seat(h, open, owner, new boolean[41])) k++;
            return k;
        }

        long[] open(int last) {
            long[] open = new long[now.c.houses.size()];
            for (int h = 0; h < open.length; h++) open[h] = quietHours(h) & (1L << last + 1) - 1;
            return open;
        }

        int plan(int what) {
            need(what == 0 || what >= 10 && what <= 15);
            int k = now.c.houses.size();
            long[] all = open(40);
            int last = 0;
            long[] open = null;
            for (last = 0; last <= 40; last++) {
                open = new long[k];
                for (int h = 0; h < k; h++) open[h] = all[h] & (1L << last + 1) - 1;
                if (matched(open) == k) break;
            }
            if (last > 40) return -2;
            if (what == 0) return k == 0 ? -1 : last;
            if (what - 10 >= k) return -1;
            for (int h = 0; h < k; h++) {
                for (int t = 0; t <= last; t++) {
                    if ((open[h] >> t & 1) == 0) continue;
                    long[] sure = open.clone();
                    for (int g = 0; g < k; g++) sure[g] = g == h ? 1L << t : sure[g] & ~(1L << t);
                    if (matched(sure) == k) { open = sure; break; }
                }
            }
            return Long.numberOfTrailingZeros(open[what - 10]);
        }

        int served(int n) { need(n >= 0 && n <= 40); return matched(open(n)); }

        int dry() {
            int s = 0;
            for (int h = 0; h < now.c.houses.size(); h++) if (quietHours(h) == 0) s |= 1 << h;
            return s;
        }

        int waterIn(int w, int n) { needWell(w); need(n >= 0 && n <= 200); return now.later(n).water[w]; }

        int hasIn(int w, int n) {
            needWell(w);
            need(n >= 0);
            Now x = new Now(now);
            for (int t = 0; t <= 200; t++) { if (x.water[w] >= n) return t; x.pass(); }
            return -1;
        }

        int fullest() {
            List<Integer> sums = new ArrayList<>();
            Now x = new Now(now);
            for (int t = 0; t <= 200; t++) { sums.add(x.all()); x.pass(); }
            return sums.indexOf(Collections.max(sums));
        }

        int level(int a, int b) {
            needWell(a);
            needWell(b);
            need(a != b && now.c.beside(a, b));
            Now x = new Now(now);
            for (int t = 0; t <= 200; t++) { if (x.water[a] == x.water[b]) return t; x.pass(); }
            return -1;
        }

        static boolean upAt(int code, int t) { return (t + code % 100) % (code / 10000) < code / 100 % 100; }

        List<Integer> fits(int t) {
            long[] row = tray(t);
            need(row.length >= 1 && row.length <= 24);
            for (long v : row) need(v == -1 || v == 0 || v == 1);
            List<Integer> codes = new ArrayList<>();
            for (int r = 2; r <= 12; r++) for (int u = 1; u <= r; u++) for (int s = 0; s < r; s++) {
                int code = 10000 * r + 100 * u + s;
                boolean fits = true;
                for (int i = 0; i < row.length; i++) if (row[i] != -1 && (row[i] == 1) != upAt(code, i)) fits = false;
                if (fits) codes.add(code);
            }
            return codes;
        }

        int seen(int t) { return fits(t).size(); }

        int roundAt(int t, int k) {
            List<Integer> codes = fits(t);
            need(k >= 0);
            return k < codes.size() ? codes.get(k) : -1;
        }

        int listen(int t) {
            List<Integer> codes = fits(t);
            if (codes.isEmpty()) return -1;
            int best = -1;
            int at = 0;
            for (int j = 1; j <= 24; j++) {
                int hour = trays[t].length - 1 + j;
                int ups = (int) codes.stream().filter(code -> upAt(code, hour)).count();
                int lesser = Math.min(ups, codes.size() - ups);
                if (lesser > best) { best = lesser; at = j; }
            }
            return at;
        }

        int whose(int t) {
            List<Integer> codes = fits(t);
            int s = 0;
            for (int w = 0; w < now.size(); w++) {
                if (codes.contains(10000 * now.c.wells.get(w).round() + 100 * now.c.wells.get(w).up() + now.phase(w))) s |= 1 << w;
            }
            return s;
        }

        int tray(int t, int sort, int many) {
            if (t < 0 || t > 3) throw new NoSuchElementException();
            need(sort >= 0 && sort <= 3 && many >= 0 && many <= 30);
            trays[t] = new long[many];
            sorts[t] = sort;
            return 0;
        }

        long write(int t, int place, long v) {
            long[] row = tray(t);
            if (place < 0 || place >= row.length) throw new IndexOutOfBoundsException();
            int away = 64 - (8 << sorts[t]);
            return row[place] = v << away >> away;
        }

        int copy(int t, int w) {
            if (t < 0 || t > 3) throw new NoSuchElementException();
            needWell(w);
            long[] row = tray(t);
            for (int i = 0; i < row.length; i++) row[i] = upsIn(i) >> w & 1;
            return row.length;
        }

        int image(int i) {
            if (i < 0 || i > 2) throw new NoSuchElementException();
            images[i] = new Kept(new Now(now), copies(past));
            return 0;
        }

        int restore(int i) {
            if (i < 0 || i > 2) throw new NoSuchElementException();
            if (images[i] == null) throw new IllegalStateException();
            now = new Now(images[i].now());
            past = copies(images[i].past());
            return 0;
        }

        static List<Now> copies(List<Now> l) {
            List<Now> out = new ArrayList<>();
            for (Now n : l) out.add(new Now(n));
            return out;
        }

        int count(int what) {
            int sours = 0;
            for (boolean s : now.sour) if (s) sours++;
            int[] all = {now.c.lines, now.size(), now.c.houses.size(), now.hour, Integer.bitCount(now.ups()), sours, now.c.pairs.size(), past.size(), tape.length, now.c.law != null ? 1 : 0};
            return what >= 0 && what < all.length ? all[what] : -1;
        }

        long answer(int call, int[] p, long v) {
            switch (call) {
                case 0: return feed(p);
                case 1: return hills(p[0]);
                case 2: return fault(p[0]);
                case 3: return well(p[0], p[1]);
                case 4: return house(p[0], p[1]);
                case 5: return now.ups();
                case 6: return now.all();
                case 7: return draw(p[0], p[1]);
                case 8: return lull(p[0]);
                case 9: return coin(p[0]);
                case 10: remember(); return now.thunder();
                case 11: return hours(p[0]);
                case 12: return undo(p[0]);
                case 13: return judge(p[0], p[1]);
                case 14: return perform(p[0]);
                case 15: return year(p[0], p[1]);
                case 16: return joint();
                case 17: return together(p[0], p[1] == 1);
                case 18: return wakesIn(p[0]);
                case 19: return stays(p[0]);
                case 20: return withAwake(p[0]);
                case 21: return stillest(p[0]);
                case 22: return chain(p[0], p[1]);
                case 23: return wakes(p[0], p[1], p[2]);
                case 24: return quietest(p[0]);
                case 25: return wakers(p[0], p[1]);
                case 26: return leastNoise(p[0], p[1]);
                case 27: return shield(p[0], p[1], p[2], p[3]);
                case 28: return loudest(p[0]);
                case 29: return chorus(p[0], p[1]);
                case 30: return yawns(p[0], p[1], p[2]);
                case 31: return loudHour(p[0], p[1]);
                case 32: return quietHours(p[0]);
                case 33: return quietWell(p[0], p[1]);
                case 34: return plan(p[0]);
                case 35: return served(p[0]);
                case 36: return dry();
                case 37: return waterIn(p[0], p[1]);
                case 38: return hasIn(p[0], p[1]);
                case 39: return fullest();
                case 40: return level(p[0], p[1]);
                case 41: return seen(p[0]);
                case 42: return roundAt(p[0], p[1]);
                case 43: return listen(p[0]);
                case 44: return whose(p[0]);
                case 45: return tray(p[0], p[1], p[2]);
                case 46: return write(p[0], p[1], v);
                case 47: return copy(p[0], p[1]);
                case 48: return image(p[0]);
                case 49: return restore(p[0]);
                default: return count(p[0]);
            }
        }
    }

    static final String[] NAMES = {"feed", "hills", "fault", "well", "house", "awake", "water", "draw", "lull", "coin", "thunder", "hours", "undo",
        "judge", "perform", "year", "joint", "together", "wakesIn", "stays", "withAwake", "stillest", "chain", "wakes", "quietest", "wakers",
        "leastNoise", "shield", "loudest", "chorus", "yawns", "loudHour", "quietHours", "quietWell", "plan", "served", "dry", "waterIn", "hasIn",
        "fullest", "level", "seen", "roundAt", "listen", "whose", "tray", "write", "copy", "image", "restore", "count"};

    static long asked(SnoringWells x, int call, int[] p, long v) {
        switch (call) {
            case 0: return x.feed(p[0], p[1], p[2], p[3], p[4]);
            case 1: return x.hills(p[0]);
            case 2: return x.fault(p[0]);
            case 3: return x.well(p[0], p[1]);
            case 4: return x.house(p[0], p[1]);
            case 5: return x.awake();
            case 6: return x.water();
            case 7: return x.draw(p[0], p[1]);
            case 8: return x.lull(p[0]);
            case 9: return x.coin(p[0]);
            case 10: return x.thunder();
            case 11: return x.hours(p[0]);
            case 12: return x.undo(p[0]);
            case 13: return x.judge(p[0], p[1]);
            case 14: return x.perform(p[0]);
            case 15: return x.year(p[0], p[1]);
            case 16: return x.joint();
            case 17: return x.together(p[0], p[1] == 1);
            case 18: return x.wakesIn(p[0]);
            case 19: return x.stays(p[0]);
            case 20: return x.withAwake(p[0]);
            case 21: return x.stillest(p[0]);
            case 22: return x.chain(p[0], p[1]);
            case 23: return x.wakes(p[0], p[1], p[2]) ? 1 : 0;
            case 24: return x.quietest(p[0]);
            case 25: return x.wakers(p[0], p[1]);
            case 26: return x.leastNoise(p[0], p[1]);
            case 27: return x.shield(p[0], p[1], p[2], p[3]);
            case 28: return x.loudest(p[0]);
            case 29: return x.chorus(p[0], p[1]);
            case 30: return x.yawns(p[0], p[1], p[2]);
            case 31: return x.loudHour(p[0], p[1]);
            case 32: return x.quietHours(p[0]);
            case 33: return x.quietWell(p[0], p[1]);
            case 34: return x.plan(p[0]);
            case 35: return x.served(p[0]);
            case 36: return x.dry();
            case 37: return x.waterIn(p[0], p[1]);
            case 38: return x.hasIn(p[0], p[1]);
            case 39: return x.fullest();
            case 40: return x.level(p[0], p[1]);
            case 41: return x.seen(p[0]);
            case 42: return x.roundAt(p[0], p[1]);
            case 43: return x.listen(p[0]);
            case 44: return x.whose(p[0]);
            case 45: x.tray(p[0], p[1], p[2]); return 0;
            case 46: return x.write(p[0], p[1], v);
            case 47: return x.copy(p[0], p[1]);
            case 48: x.image(p[0]); return 0;
            case 49: x.restore(p[0]); return 0;
            default: return x.count(p[0]);
        }
    }

    // ------------------------------------------------------------------ runs by chance

    static Random dice;
    static int d(int n) { return dice.nextInt(n); }
    static boolean chance(int percent) { return d(100) < percent; }

    static String sum(int depth) {
        StringBuilder s = new StringBuilder(atom(depth));
        while (chance(25)) s.append(chance(15) ? " " : "").append("+-*".charAt(d(3))).append(atom(depth));
        return s.toString();
    }

    static String atom(int depth) {
        if (depth < 6 && chance(12)) return "(" + sum(depth + 1) + ")";
        if (chance(35)) return String.valueOf(chance(80) ? d(12) : chance(20) ? 999 : d(1000));
        return new String[] {"da", "db", "wa", "wb", "n", "n", "hour", "phase", "many"}[d(9)];
    }

    static String unit(int depth) {
        if (depth < 6 && chance(12)) return "not " + unit(depth + 1);
        if (depth < 6 && chance(12)) return "[" + truth(depth + 1) + "]";
        return sum(depth) + "=<><>".charAt(d(5)) + sum(depth);
    }

    static String truth(int depth) {
        StringBuilder s = new StringBuilder(unit(depth));
        while (chance(30)) s.append(chance(50) ? " and " : " or ").append(unit(depth));
        return s.toString();
    }

    static String wellLine() {
        int round = chance(15) ? 7 : chance(15) ? 11 : 2 + d(11);
        int up = chance(8) ? round : 1 + d(round);
        String s = "well every " + round + " awake " + up;
        if (chance(60)) s += " shift " + d(round);
        int deep = 10;
        if (chance(60)) s += " deep " + (deep = 1 + d(chance(50) ? 99 : 12));
        if (chance(60)) s += " water " + d(deep + 1);
        return s;
    }

    static String text() {
        int wells = chance(5) ? 0 : chance(40) ? 1 + d(10) : 3 + d(5);
        List<String> lines = new ArrayList<>();
        for (int i = 0; i < wells; i++) lines.add(wellLine());
        List<String> rest = new ArrayList<>();
        if (wells > 1) {
            int pairs = chance(50) ? wells * 2 : d(wells * 3);
            for (int i = 0; i < pairs; i++) {
                int a = d(wells);
                rest.add("beside " + a + " " + (a + 1 + d(wells - 1)) % wells);
            }
        }
        if (wells > 0) {
            int houses = d(7);
            for (int i = 0; i < houses; i++) {
                StringBuilder s = new StringBuilder("house " + (1 + d(chance(80) ? 9 : 99)) + " from " + d(wells));
                while (chance(55)) s.append(" ").append(d(wells));
                rest.add(s.toString());
            }
        }
        if (chance(90)) {
            rest.add("wakes " + (chance(20) ? "1=1" : chance(30) ? "n>" + d(9) + " or phase>" + d(4) : truth(0)));
            if (chance(10)) rest.add("wakes " + truth(0));
        }
        if (chance(50)) rest.add("hour " + d(1000));
        if (chance(10)) rest.add("hour " + d(1000));
        Collections.shuffle(rest, dice);
        lines.addAll(rest);
        StringBuilder s = new StringBuilder();
        for (String l : lines) {
            if (s.length() + l.length() < 895) s.append(l).append(chance(10) ? " ;" : ";").append(chance(10) ? "\n" : "");
        }
        return s.toString();
    }

    static String spoiled(String text) {
        StringBuilder s = new StringBuilder(text);
        int times = 1 + d(2);
        for (int i = 0; i < times && s.length() > 0; i++) {
            int at = d(s.length());
            String[] bits = {";", "+", "(", "[", "not ", "and", "0", "7", "12", "999", "1000", "well ", "beside ", "house ", "from", "=", "<", ")", "]", "A", "\t", "\0", "\u00e9", " ", "*", "hour", "many", "wa"};
            String bit = bits[d(bits.length)];
            switch (d(5)) {
                case 0: s.deleteCharAt(at); break;
                case 1: s.insert(at, bit); break;
                case 2: s.setLength(at); break;
                case 3: s.setCharAt(at, bit.charAt(0)); break;
                default:
                    for (int k = 0; k < s.length(); k++) {
                        int j = (at + k) % s.length();
                        if (Character.isDigit(s.charAt(j))) { s.setCharAt(j, (char) ('0' + d(10))); break; }
                    }
            }
        }
        while (s.length() > 900) s.deleteCharAt(s.length() - 1);
        return s.toString();
    }

    static final class Run {
        final SnoringWells x = new SnoringWells();
        final Model m = new Model();
        final List<String> log = new ArrayList<>();
        int left = 512;

        boolean both(int call, long v, int... p) {
            if (left-- <= 0 || wrong > 20) return false;
            calls++;
            String due;
            String got;
            try { due = String.valueOf(m.answer(call, p, v)); }
            catch (NoSuchElementException | IllegalStateException | IllegalArgumentException | IndexOutOfBoundsException e) { due = e.getClass().getSimpleName(); }
            try { got = String.valueOf(asked(x, call, p, v)); }
            catch (RuntimeException e) { got = e.getClass().getSimpleName(); }
            String told = NAMES[call] + Arrays.toString(p) + (call == 46 ? " v " + v : "");
            log.add(told + " -> " + due);
            if (!got.equals(due)) {
                wrong++;
                System.out.println(told + " answered " + got + ", due is " + due + " after " + (log.size() - 1) + " calls");
                if (wrong == 1) for (String l : log.subList(Math.max(0, log.size() - 60), log.size())) System.out.println("    " + l);
                return false;
            }
            return true;
        }

        boolean feedText(String text) {
            byte[] bytes = text.getBytes(java.nio.charset.StandardCharsets.ISO_8859_1);
            byte[] padded = Arrays.copyOf(bytes, (bytes.length + 19) / 20 * 20);
            java.nio.ByteBuffer b = java.nio.ByteBuffer.wrap(padded);
            log.add("# " + text);
            for (int i = 0; i < padded.length; i += 20) {
                if (!both(0, 0, b.getInt(), b.getInt(), b.getInt(), b.getInt(), b.getInt())) return false;
            }
            return both(1, 0, bytes.length) && both(2, 0, 0) && both(2, 0, 1);
        }

        int w() { return chance(4) ? d(14) - 2 : d(Math.max(1, m.now.size())); }
        int h() { return chance(4) ? d(9) - 1 : d(Math.max(1, m.now.c.houses.size())); }
        int n() { return chance(3) ? (chance(50) ? -1 : 100) : chance(50) ? d(10) : d(100); }
        int what(int most) { return chance(4) ? (chance(50) ? -1 : most + 1) : d(most + 1); }
        int t() { return chance(3) ? d(6) - 1 : d(4); }
        int hour() { return chance(4) ? (chance(50) ? -1 : 41) : d(41); }
        int later() { return chance(4) ? (chance(50) ? -1 : 201) : chance(50) ? d(20) : d(201); }

        long deed() {
            if (chance(4)) return dice.nextLong();
            if (chance(4)) return d(4000) - 100;
            switch (d(6)) {
                case 0: return -1;
                case 1: return chance(30) ? 3000 : -1;
                case 2: return 2000 + w();
                case 3: return 2100 + w();
                default: return 100 * d(Math.max(1, m.now.size())) + (chance(10) ? d(100) : 1 + d(5));
            }
        }

        boolean fillTray() {
            int t = d(4);
            boolean deeds = chance(50);
            int many = deeds ? d(12) : 1 + d(chance(90) ? 12 : 24);
            if (!both(45, 0, t, deeds ? 1 + d(3) : d(4), many)) return false;
            if (!deeds && chance(60)) {
                if (!both(47, 0, t, w())) return false;
                for (int i = 0; i < many; i++) if (chance(25) && !both(46, chance(90) ? -1 : d(2), t, i)) return false;
                return true;
            }
            for (int i = 0; i < many; i++) if (!both(46, deeds ? deed() : chance(2) ? d(300) - 150 : d(3) - 1, t, i)) return false;
            return true;
        }

        boolean look() {
            for (int w = 0; w < m.now.size(); w++) for (int k : new int[] {2, 4, 7}) if (!both(3, 0, w, k)) return false;
            return both(50, 0, 3) && both(50, 0, 7);
        }

        boolean deedCall() {
            switch (d(13)) {
                case 0: case 1: case 2: return both(7, 0, w(), chance(5) ? d(120) - 10 : 1 + d(6));
                case 3: case 4: return both(8, 0, w());
                case 5: case 6: return both(9, 0, w());
                case 7: return chance(40) ? both(10, 0) : both(50, 0, 5);
                case 8: case 9: return both(11, 0, chance(4) ? d(2) * 100 : chance(80) ? 1 + d(5) : 1 + d(99));
                case 10: return both(12, 0, chance(5) ? d(14) - 1 : 1 + d(3));
                case 11: return both(14, 0, t());
                default: return both(15, 0, chance(20) ? d(1000) : dice.nextInt(), chance(4) ? d(2) * 31 : 1 + d(chance(70) ? 6 : 30));
            }
        }

        int wild() { return new int[] {Integer.MIN_VALUE, Integer.MAX_VALUE, -2, -1, 0, 1, 2, 9, 10, 11, 31, 32, 33, 64, 1 << 30, dice.nextInt()}[d(16)]; }

        boolean wildCall() {
            int k = 1 + d(50);
            return both(k, dice.nextLong(), wild(), wild(), wild(), wild(), wild());
        }

        boolean askCall() {
            if (chance(4)) return wildCall();
            int k = chance(3) ? 2 + d(49) : 13 + d(38);
            switch (k) {
                case 2: return both(2, 0, d(4) - 1);
                case 3: return both(3, 0, w(), what(8));
                case 4: return both(4, 0, h(), what(1));
                case 5: case 6: case 16: case 36: case 39: return both(k, 0);
                case 13: return both(13, 0, t(), what(3));
                case 17: return both(17, 0, chance(3) ? dice.nextInt() : d(1 << m.now.size()), d(2));
                case 18: case 19: case 24: return both(k, 0, w());
                case 20: return both(20, 0, chance(5) ? d(13) - 1 : d(m.now.size() + 1));
                case 21: return both(21, 0, what(1));
                case 22: case 25: case 31: return both(k, 0, w(), n());
                case 23: return both(23, 0, w(), w(), n());
                case 26: return both(26, 0, w(), what(1));
                case 27: return both(27, 0, w(), n(), w(), what(1));
                case 28: return both(28, 0, n());
                case 29: return both(29, 0, n(), what(1));
                case 30: return both(30, 0, w(), n(), w());
                case 32: return both(32, 0, h());
                case 33: return both(33, 0, h(), hour());
                case 34: return both(34, 0, chance(5) ? d(20) - 1 : chance(40) ? 0 : 10 + d(6));
                case 35: return both(35, 0, hour());
                case 37: return both(37, 0, w(), later());
                case 38: return both(38, 0, w(), chance(5) ? (chance(50) ? -1 : dice.nextInt()) : d(30));
                case 40: return both(40, 0, w(), w());
                case 41: case 43: case 44: return both(k, 0, t());
                case 42: return both(42, 0, t(), chance(5) ? -1 : chance(70) ? d(10) : d(700));
                case 45: return fillTray();
                case 46: return both(46, dice.nextLong() >> d(64), t(), d(32) - 1);
                case 47: return both(47, 0, t(), w());
                case 48: case 49: return both(k, 0, chance(10) ? d(6) - 1 : d(3));
                case 50: return both(50, 0, d(13) - 1);
                default: return deedCall();
            }
        }

        /** An image with deeds in it, other deeds in their stead, and back. */
        boolean imagePlay() {
            int i = d(3);
            if (!both(48, 0, i)) return false;
            if (m.past.size() > 0 && !both(12, 0, 1 + d(m.past.size()))) return false;
            int many = d(12);
            for (int k = 0; k < many; k++) if (!deedCall()) return false;
            if (!both(49, 0, i)) return false;
            while (m.past.size() > 0) if (!look() || !both(12, 0, 1)) return false;
            return look();
        }

        void go() {
            boolean good = chance(3) ? true : feedText(text());
            while (good && left > 0) {
                int k = d(100);
                if (k < 3) good = feedText(chance(60) ? spoiled(text()) : text());
                else if (k < 4) good = both(1, 0, d(40) - 5);
                else if (k < 5) good = both(0, 0, dice.nextInt(), 0, 0, 0, 0);
                else if (k < 6 && chance(40)) good = imagePlay();
                else if (k < 10) good = fillTray();
                else if (k < 45) good = deedCall();
                else if (k < 48) good = look();
                else good = askCall();
            }
        }
    }

    static void texts(int many) {
        Run r = new Run();
        for (int i = 0; i < many && wrong <= 20; i++) {
            r.left = 512;
            r.log.clear();
            String t = text();
            if (!r.feedText(chance(85) ? spoiled(t) : t)) continue;
            for (int k = 0; k < 10; k++) r.both(50, 0, k);
        }
    }

    public static void main(String[] args) {
        int runs = args.length > 1 ? Integer.parseInt(args[1]) : 60;
        long seed = args.length > 2 ? Long.parseLong(args[2]) : 20261117L;
        dice = new Random(seed);
        texts(runs * 40);
        for (int i = 0; i < runs && wrong <= 20; i++) new Run().go();
        System.out.println(calls + " calls, " + wrong + " answers are not as due");
        if (wrong != 0) System.exit(1);
    }
}
