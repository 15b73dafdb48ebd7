import java.math.BigInteger;
import java.util.ArrayList;
import java.util.List;

/** The document once more, by other ways than the class: second by second, row by row, order by order. */
final class NaivePail {
    static final int BEYOND = -1000000001, NONE = -1000000002, STATE = -1000000003, FULL = -1000000004,
            KIND = -1000000005;

    static final class Man {
        int kind, m, size, water, heard;

        Man copy() {
            Man c = new Man();
            c.kind = kind;
            c.m = m;
            c.size = size;
            c.water = water;
            c.heard = heard;
            return c;
        }

        int runsAs(int k) {
            int r;
            switch (k) {
                case 0: r = 5; break;
                case 1: r = runsAs(0) + m; break;
                case 2: r = runsAs(0) - m / 2; break;
                case 3: r = 1; break;
                case 4: r = 2 * runsAs(1); break;
                case 5: r = runsAs(2) / 2; break;
                default: r = runsAs(3) + m; break;
            }
            return r < 1 ? 1 : r;
        }

        int dripsAs(int k) {
            switch (k) {
                case 0: return 0;
                case 1: return m / 2;
                case 3: return 1;
                case 4: return dripsAs(1) + 1;
                default: return dripsAs(k == 2 ? 0 : k == 5 ? 2 : 3);
            }
        }

        int runs() {
            return runsAs(kind);
        }

        int drips() {
            return dripsAs(kind);
        }
    }

    static final class Word {
        int party, takes, worth, behind, how;

        Word copy() {
            Word c = new Word();
            c.party = party;
            c.takes = takes;
            c.worth = worth;
            c.behind = behind;
            c.how = how;
            return c;
        }
    }

    static final class World {
        List<Man> men = new ArrayList<>();
        List<Word> words = new ArrayList<>();
        int second, floor, thumb, hand = -1, toGo;
        String[] texts = new String[2];
        List<Integer> tape = new ArrayList<>();
        List<Integer> waiting = new ArrayList<>();
        int z = 1;

        World copy() {
            World c = new World();
            for (Man p : men) c.men.add(p.copy());
            for (Word w : words) c.words.add(w.copy());
            c.second = second;
            c.floor = floor;
            c.thumb = thumb;
            c.hand = hand;
            c.toGo = toGo;
            c.texts = texts.clone();
            c.tape.addAll(tape);
            c.waiting.addAll(waiting);
            c.z = z;
            return c;
        }

        int ear(Word w, int heard) {
            return clamp(texts[0] == null ? w.worth : eval(texts[0], "wlh", w.worth, w.takes, heard), 0, 999);
        }

        int spill(int l, int s, int m) {
            return clamp(texts[1] == null ? l * m / 50 : eval(texts[1], "lsm", l, s, m), 0, l);
        }

        void second() {
            second++;
            if (thumb == 1) return;
            boolean enough = true;
            for (int p = 0; p < men.size(); p++) {
                Man man = men.get(p);
                boolean speaks = hand >= 0 && words.get(hand).party == p;
                int wish = speaks ? man.runs() : man.drips();
                if (speaks && man.water < wish) enough = false;
                int gone = Math.min(wish, man.water);
                man.water -= gone;
                floor = Math.min(999999, floor + gone);
            }
            if (hand < 0) return;
            Word w = words.get(hand);
            if (!enough) {
                w.how = 2;
                hand = -1;
                toGo = 0;
                return;
            }
            toGo--;
            if (toGo == 0) {
                w.how = 1;
                Man man = men.get(w.party);
                man.heard = Math.min(99999, man.heard + ear(w, man.heard));
                hand = -1;
            }
        }

        int draw() {
            z = z * 1103515245 + 12345;
            return z >>> 8;
        }

        boolean free(Word w) {
            return w.behind == -1 || words.get(w.behind).how == 1;
        }

        boolean maySay(int word) {
            return word >= 0 && word < words.size() && hand == -1 && words.get(word).how == 0 && free(words.get(word));
        }

        void sayAll(int word) {
            hand = word;
            toGo = words.get(word).takes;
            while (hand != -1) second();
        }
    }

    World now = new World();
    World kept;
    int images;
    Object[] sheets = new Object[4];
    List<Integer> bodies = new ArrayList<>();
    int[] refused = new int[6];

    int err(int e) {
        refused[-1000000000 - e]++;
        return e;
    }

    static int clamp(int v, int a, int b) {
        return v < a ? a : v > b ? b : v;
    }

    static boolean in(int v, int a, int b) {
        return a <= v && v <= b;
    }

    boolean isP(int p) {
        return in(p, 0, now.men.size() - 1);
    }

    boolean isW(int w) {
        return in(w, 0, now.words.size() - 1);
    }

    int party(int km, int size) {
        if (!in(km, 0, 69) || !in(size, 1, 999)) return err(BEYOND);
        if (now.men.size() == 4) return err(FULL);
        Man p = new Man();
        p.kind = km / 10;
        p.m = km % 10;
        p.size = size;
        now.men.add(p);
        return now.men.size() - 1;
    }

    int ofParty(int party, int what) {
        if (!isP(party) || !in(what, 0, 7)) return err(BEYOND);
        Man p = now.men.get(party);
        int said = 0;
        for (Word w : now.words) if (w.party == party && w.how == 1) said++;
        return new int[] {p.kind, p.m, p.size, p.water, p.heard, p.runs(), p.drips(), said}[what];
    }

    int become(int party, int km) {
        if (!isP(party) || !in(km, 0, 69)) return err(BEYOND);
        Man p = now.men.get(party);
        int was = p.kind;
        p.kind = km / 10;
        p.m = km % 10;
        return was;
    }

    int as(int party, int kind) {
        if (!isP(party) || !in(kind, 0, 6)) return err(BEYOND);
        int k = now.men.get(party).kind;
        String[] lines = {"0", "10", "20", "30", "410", "520", "630"};
        if (lines[k].indexOf('0' + kind) < 0) return err(KIND);
        return now.men.get(party).m;
    }

    int word(int party, int takes, int worth, int behind) {
        if (!isP(party) || !in(takes, 1, 30) || !in(worth, 0, 99) || !in(behind, -1, now.words.size() - 1)) {
            return err(BEYOND);
        }
        if (now.words.size() == 12) return err(FULL);
        Word w = new Word();
        w.party = party;
        w.takes = takes;
        w.worth = worth;
        w.behind = behind;
        now.words.add(w);
        return now.words.size() - 1;
    }

    int ofWord(int word, int what) {
        if (!isW(word) || !in(what, 0, 4)) return err(BEYOND);
        Word w = now.words.get(word);
        return new int[] {w.party, w.takes, w.worth, w.behind, w.how}[what];
    }

    int set(int word, int what, int v) {
        if (!isW(word) || !in(what, 1, 2)) return err(BEYOND);
        if (what == 1 ? !in(v, 1, 30) : !in(v, 0, 99)) return err(BEYOND);
        Word w = now.words.get(word);
        if (w.how != 0 || now.hand == word) return err(STATE);
        int was = what == 1 ? w.takes : w.worth;
        if (what == 1) w.takes = v;
        else w.worth = v;
        return was;
    }

    int fetch(int party, int n) {
        if (!isP(party) || !in(n, 1, 999)) return err(BEYOND);
        Man p = now.men.get(party);
        return p.water = Math.min(p.size, p.water + n);
    }

    int pour(int from, int to, int n) {
        if (!isP(from) || !isP(to) || from == to || !in(n, 1, 999)) return err(BEYOND);
        Man a = now.men.get(from), b = now.men.get(to);
        if (a.water < n) return err(STATE);
        if (b.size - b.water < n) return err(FULL);
        a.water -= n;
        return b.water += n;
    }

    int object(int party, int n) {
        if (!isP(party) || !in(n, 1, 99)) return err(BEYOND);
        if (now.hand == -1) return err(STATE);
        int other = now.words.get(now.hand).party;
        if (other == party) return err(STATE);
        Man a = now.men.get(party), b = now.men.get(other);
        if (a.water < n) return err(STATE);
        int out = Math.min(2 * n, b.water);
        a.water -= n;
        b.water -= out;
        now.floor = Math.min(999999, now.floor + n + out);
        return b.water;
    }

    int thumb(int v) {
        if (!in(v, 0, 1)) return err(BEYOND);
        int was = now.thumb;
        now.thumb = v;
        return was;
    }

    int say(int word) {
        if (!isW(word)) return err(BEYOND);
        if (!now.maySay(word)) return err(STATE);
        now.hand = word;
        return now.toGo = now.words.get(word).takes;
    }

    int stop() {
        if (now.hand == -1) return err(NONE);
        int w = now.hand;
        now.words.get(w).how = 2;
        now.hand = -1;
        now.toGo = 0;
        return w;
    }

    int seconds(int n) {
        if (!in(n, 1, 300)) return err(BEYOND);
        if (now.second + n > 99999) return err(STATE);
        for (int i = 0; i < n; i++) now.second();
        return now.floor;
    }

    int loose(int n) {
        if (!in(n, 1, 300)) return err(BEYOND);
        if (now.second + n > 99999) return err(STATE);
        for (int i = 0; i < n; i++) {
            int p = now.draw() % 4, d = now.draw() % 6;
            if (p < now.men.size()) now.men.get(p).water = Math.max(0, now.men.get(p).water - d);
            now.second();
        }
        return now.floor;
    }

    int then(int n, int party, int what) {
        if (!in(n, 0, 300) || !isP(party) || !in(what, 0, 3)) return err(BEYOND);
        World w = now.copy();
        for (int i = 0; i < n; i++) w.second();
        return new int[] {w.men.get(party).water, w.men.get(party).heard, w.floor, w.hand}[what];
    }

    int feed(long word, int n) {
        if (!in(n, 1, 8)) return err(BEYOND);
        if (now.tape.size() + n > 50) return err(FULL);
        for (int i = 0; i < n; i++) {
            now.tape.add((int) (word & 255));
            word >>= 8;
        }
        return now.tape.size();
    }

    int text(int use) {
        if (!in(use, 0, 1)) return err(BEYOND);
        StringBuilder s = new StringBuilder();
        for (int b : now.tape) s.append((char) b);
        now.tape.clear();
        int fault = fault(s.toString(), use == 0 ? "wlh" : "lsm");
        if (fault >= 0) return -10 - fault;
        now.texts[use] = s.toString();
        return 1;
    }

    /** By an automaton: what may come next, a row of what is open, and whether one compares already. */
    static int fault(String s, String names) {
        StringBuilder open = new StringBuilder();
        List<Boolean> compared = new ArrayList<>();
        compared.add(false);
        boolean wants = true;
        int digits = 0;
        for (int i = 0; i < s.length(); i++) {
            char c = s.charAt(i);
            boolean digit = c >= '0' && c <= '9';
            if (wants) {
                if (c == '!' || c == '(') {
                    if (open.length() == 5) return i;
                    open.append(c);
                    if (c == '(') compared.add(false);
                    continue;
                }
                if (!digit && names.indexOf(c) < 0) return i;
                digits = digit ? 1 : 0;
                wants = false;
                shut(open);
                continue;
            }
            if (digit && digits > 0 && digits < 4) {
                digits++;
                continue;
            }
            digits = 0;
            int top = compared.size() - 1;
            if (c == ')') {
                if (top == 0) return i;
                compared.remove(top);
                open.setLength(open.length() - 1);
                shut(open);
            } else if ("<=>".indexOf(c) >= 0) {
                if (compared.get(top)) return i;
                compared.set(top, true);
                wants = true;
            } else if ("&|".indexOf(c) >= 0) {
                compared.set(top, false);
                wants = true;
            } else if ("+-*/%".indexOf(c) >= 0) {
                wants = true;
            } else {
                return i;
            }
        }
        return wants || compared.size() > 1 ? s.length() : -1;
    }

    private static void shut(StringBuilder open) {
        while (open.length() > 0 && open.charAt(open.length() - 1) == '!') open.setLength(open.length() - 1);
    }

    /** By cutting at the last sign of the weakest sort that stands outside of all ( ). */
    static int eval(String s, String names, int a, int b, int c) {
        for (String signs : new String[] {"|", "&", "<=>", "+-", "*/%"}) {
            int deep = 0;
            for (int i = s.length() - 1; i > 0; i--) {
                char sign = s.charAt(i);
                if (sign == ')') deep++;
                if (sign == '(') deep--;
                if (deep == 0 && signs.indexOf(sign) >= 0) {
                    int x = eval(s.substring(0, i), names, a, b, c);
                    int y = eval(s.substring(i + 1), names, a, b, c);
                    return apply(sign, x, y);
                }
            }
        }
        char first = s.charAt(0);
        if (first == '!') return eval(s.substring(1), names, a, b, c) == 0 ? 1 : 0;
        if (first == '(') return eval(s.substring(1, s.length() - 1), names, a, b, c);
        int name = names.indexOf(first);
        return name == 0 ? a : name == 1 ? b : name == 2 ? c : Integer.parseInt(s);
    }

    private static int apply(char sign, int x, int y) {
        long p = x, q = y;
        switch (sign) {
            case '|': return x != 0 | y != 0 ? 1 : 0;
            case '&': return x != 0 & y != 0 ? 1 : 0;
            case '<': return x < y ? 1 : 0;
            case '=': return x == y ? 1 : 0;
            case '>': return x > y ? 1 : 0;
            case '+': return (int) (p + q);
            case '-': return (int) (p - q);
            case '*': return (int) (p * q);
            case '/': return y == 0 ? 0 : (int) (p / q);
            default: return y == 0 ? 0 : (int) (p % q);
        }
    }

    int law(int use, int a, int b, int c) {
        if (!in(use, 0, 1) || use == 1 && !in(a, 0, 999)) return err(BEYOND);
        if (use == 1) return now.spill(a, b, c);
        Word w = new Word();
        w.worth = a;
        w.takes = b;
        return now.ear(w, c);
    }

    /** BRINGS, seconds and the row of each SPEECH of a set, in the order of the rows. */
    private void speeches(int set, List<Integer> from, List<Integer> row, List<int[]> all) {
        int least = Integer.numberOfTrailingZeros(set), water = 0, brings = 0, takes = 0;
        for (int p = 0; p < now.men.size(); p++) if ((set & 1 << p) != 0) water += now.men.get(p).water;
        int heard = now.men.get(least).heard;
        boolean good = true;
        for (int i = 0; i < row.size(); i++) {
            Word w = now.words.get(row.get(i));
            int gets = now.ear(w, heard);
            heard += gets;
            brings += gets;
            takes += w.takes;
            if (!now.free(w) && !row.subList(0, i).contains(w.behind)) good = false;
        }
        if (takes * now.men.get(least).runs() > water) good = false;
        if (good) {
            int[] one = new int[2 + row.size()];
            one[0] = brings;
            one[1] = takes;
            for (int i = 0; i < row.size(); i++) one[2 + i] = row.get(i);
            all.add(one);
        }
        for (int w : from) {
            if (row.contains(w)) continue;
            row.add(w);
            speeches(set, from, row, all);
            row.remove(row.size() - 1);
        }
    }

    int[] bestOf(int set) {
        if (set == 0) return new int[2];
        List<Integer> from = new ArrayList<>();
        for (int w = 0; w < now.words.size() && from.size() < 5; w++) {
            Word word = now.words.get(w);
            if ((set & 1 << word.party) != 0 && word.how == 0) from.add(w);
        }
        List<int[]> all = new ArrayList<>();
        speeches(set, from, new ArrayList<>(), all);
        all.sort((x, y) -> x[0] != y[0] ? y[0] - x[0] : x[1] - y[1]);
        return all.get(0);
    }

    int best(int set, int what) {
        if (!in(set, 1, (1 << now.men.size()) - 1) || !in(what, -2, 4)) return err(BEYOND);
        int[] b = bestOf(set);
        if (what == -2) return b[0];
        if (what == -1) return b.length - 2;
        return what + 2 < b.length ? b[what + 2] : err(NONE);
    }

    private void orders(List<Integer> row, long[] gains, int[] bests) {
        int n = now.men.size();
        if (row.size() == n) {
            int set = 0;
            for (int p : row) {
                gains[p] += bests[set | 1 << p] - bests[set];
                set |= 1 << p;
            }
            gains[n]++;
            return;
        }
        for (int p = 0; p < n; p++) {
            if (row.contains(p)) continue;
            row.add(p);
            orders(row, gains, bests);
            row.remove(row.size() - 1);
        }
    }

    private int[] bests() {
        int[] bests = new int[1 << now.men.size()];
        for (int s = 0; s < bests.length; s++) bests[s] = bestOf(s)[0];
        return bests;
    }

    private long[] gains(int[] bests) {
        long[] gains = new long[now.men.size() + 1];
        orders(new ArrayList<>(), gains, bests);
        return gains;
    }

    private static long lowest(BigInteger above, BigInteger below, int part) {
        BigInteger g = above.gcd(below);
        return (part == 0 ? above : below).divide(g).longValueExact();
    }

    long share(int party, int part) {
        if (!isP(party) || !in(part, 0, 1)) return err(BEYOND);
        long[] gains = gains(bests());
        return lowest(BigInteger.valueOf(gains[party]), BigInteger.valueOf(gains[now.men.size()]), part);
    }

    int leaves() {
        int[] bests = bests();
        long[] gains = gains(bests);
        for (int s = 1; s < bests.length; s++) {
            long sum = 0;
            for (int p = 0; p < now.men.size(); p++) if ((s & 1 << p) != 0) sum += gains[p];
            if (bests[s] * gains[now.men.size()] > sum) return s;
        }
        return err(NONE);
    }

    /** VALUE and the pick. */
    private int[] play(World w, int[] two, int turn, int n) {
        if (turn == n) {
            return new int[] {(w.men.get(two[0]).heard - now.men.get(two[0]).heard)
                    - (w.men.get(two[1]).heard - now.men.get(two[1]).heard), 0};
        }
        int side = turn % 2 == 0 ? 1 : -1;
        int[] best = null;
        List<Integer> unsaid = new ArrayList<>();
        for (int i = 0; i < w.words.size(); i++) {
            if (w.words.get(i).party == two[turn % 2] && w.words.get(i).how == 0) unsaid.add(i);
        }
        List<Integer> picks = new ArrayList<>();
        for (int i : unsaid.subList(0, Math.min(4, unsaid.size()))) if (w.free(w.words.get(i))) picks.add(i);
        picks.add(12);
        for (int pick : picks) {
            World next = w.copy();
            if (pick < 12) next.sayAll(pick);
            int v = play(next, two, turn + 1, n)[0];
            if (best == null || v * side > best[0] * side) best = new int[] {v, pick};
        }
        return best;
    }

    int game(int one, int other, int n, int what) {
        if (!isP(one) || !isP(other) || one == other || !in(n, 1, 4) || !in(what, 0, 1)) return err(BEYOND);
        World w = now.copy();
        w.thumb = 0;
        w.hand = -1;
        w.toGo = 0;
        return play(w, new int[] {one, other}, 0, n)[what];
    }

    long odds(int one, int other, int u, int part) {
        if (!isP(one) || !isP(other) || one == other || !in(u, 0, 16) || !in(part, 0, 1)) return err(BEYOND);
        List<Integer> worths = new ArrayList<>();
        for (int p : new int[] {one, other}) {
            int seen = 0;
            for (Word w : now.words) {
                if (w.party == p && w.how == 1 && seen++ < 5) worths.add(p == one ? w.worth : -w.worth);
            }
        }
        BigInteger above = BigInteger.ZERO;
        for (int s = 0; s < 1 << worths.size(); s++) {
            int sum = 0;
            BigInteger often = BigInteger.ONE;
            for (int i = 0; i < worths.size(); i++) {
                boolean is = (s >> i & 1) == 1;
                if (is) sum += worths.get(i);
                often = often.multiply(BigInteger.valueOf(is ? u : 16 - u));
            }
            if (sum > 0) above = above.add(often);
        }
        return lowest(above, BigInteger.valueOf(16).pow(worths.size()), part);
    }

    int carried(int party, int seconds, int steps, int what) {
        if (!isP(party) || !in(seconds, 1, 9999) || !in(steps, 1, 99) || !in(what, 0, 1)) return err(BEYOND);
        int best = 1, most = 0;
        for (int l = now.men.get(party).size; l >= 1; l--) {
            int ways = 0;
            for (int t = seconds; t >= steps * (2 + l / 20); t -= steps * (2 + l / 20)) ways++;
            int comes = ways * (l - now.spill(l, steps, now.men.get(party).m));
            if (comes >= most) {
                most = comes;
                best = l;
            }
        }
        return what == 0 ? best : most;
    }

    private int length(int sheet) {
        Object s = sheets[sheet];
        return s instanceof byte[] ? ((byte[]) s).length : s instanceof short[] ? ((short[]) s).length
                : ((int[]) s).length;
    }

    private int number(int sheet, int i) {
        Object s = sheets[sheet];
        return s instanceof byte[] ? ((byte[]) s)[i] : s instanceof short[] ? ((short[]) s)[i] : ((int[]) s)[i];
    }

    int explained(int party, int sheet) {
        if (!isP(party) || !in(sheet, 0, 3)) return err(BEYOND);
        if (sheets[sheet] == null) return err(NONE);
        for (int m = 0; m <= 9; m++) {
            World w = now.copy();
            w.men.get(party).m = m;
            boolean all = true;
            for (int i = 0; i < length(sheet); i++) {
                w.second();
                all &= w.floor == number(sheet, i);
            }
            if (all) return m;
        }
        return err(NONE);
    }

    int seed(int v) {
        int was = now.z;
        now.z = v;
        return was;
    }

    /** The KINDS as classes, as the document writes them. */
    static class Plain {
        List<Integer> bodies;
        int n, m;

        int pours(int x) { bodies.add(10); return x + n; }
        int speaks(int x) { bodies.add(11); return pours(x) * 2; }
        int rests(int x) { bodies.add(12); return x - m; }
        int tells(int x) { bodies.add(13); return speaks(x) ^ rests(x); }
    }

    static class Leaky extends Plain {
        @Override int speaks(int x) { bodies.add(20); return super.speaks(x) - rests(1); }
    }

    static class Iced extends Plain {
        @Override int pours(int x) { bodies.add(30); return super.pours(x) * 3; }
    }

    static class Dumb extends Plain {
        @Override int rests(int x) { bodies.add(40); return -super.rests(x); }
    }

    static class Holed extends Leaky {
        @Override int speaks(int x) { bodies.add(50); return super.speaks(x + 1); }
    }

    static class Frozen extends Iced {
        @Override int tells(int x) { bodies.add(60); return super.tells(x) - pours(2); }
    }

    static class Gestured extends Dumb {
        @Override int rests(int x) { bodies.add(70); return super.rests(x) ^ n; }
        @Override int tells(int x) { bodies.add(71); return speaks(x) - super.tells(x); }
    }

    int voice(int party, int act, int x) {
        if (!isP(party) || !in(act, 0, 3)) return err(BEYOND);
        Man p = now.men.get(party);
        Plain v = p.kind == 0 ? new Plain() : p.kind == 1 ? new Leaky() : p.kind == 2 ? new Iced()
                : p.kind == 3 ? new Dumb() : p.kind == 4 ? new Holed() : p.kind == 5 ? new Frozen() : new Gestured();
        bodies = new ArrayList<>();
        v.bodies = bodies;
        v.n = party;
        v.m = p.m;
        return act == 0 ? v.pours(x) : act == 1 ? v.speaks(x) : act == 2 ? v.rests(x) : v.tells(x);
    }

    int trace(int i) {
        return in(i, 0, Math.min(40, bodies.size()) - 1) ? bodies.get(i) : err(NONE);
    }

    int sheet(int sheet, int bits, int n) {
        if (!in(sheet, 0, 3) || bits != 0 && bits != 8 && bits != 16 && bits != 32) return err(BEYOND);
        if (bits == 0) {
            sheets[sheet] = null;
            return 1;
        }
        if (n < 0) return err(STATE);
        if (n > 40) return err(BEYOND);
        sheets[sheet] = bits == 8 ? new byte[n] : bits == 16 ? new short[n] : new int[n];
        return 1;
    }

    int put(int sheet, int i, int v) {
        if (!in(sheet, 0, 3)) return err(BEYOND);
        if (sheets[sheet] == null) return err(NONE);
        if (!in(i, 0, length(sheet) - 1)) return err(BEYOND);
        Object s = sheets[sheet];
        if (s instanceof byte[]) ((byte[]) s)[i] = (byte) v;
        else if (s instanceof short[]) ((short[]) s)[i] = (short) v;
        else ((int[]) s)[i] = v;
        return 1;
    }

    int move(int sheet, int i, int other, int j, int n) {
        if (!in(sheet, 0, 3) || !in(other, 0, 3)) return err(BEYOND);
        if (sheets[sheet] == null || sheets[other] == null) return err(NONE);
        if (sheets[sheet].getClass() != sheets[other].getClass()) return err(KIND);
        if (n < 0 || i < 0 || j < 0 || (long) i + n > length(sheet) || (long) j + n > length(other)) {
            return err(BEYOND);
        }
        int[] were = new int[n];
        for (int k = 0; k < n; k++) were[k] = number(sheet, i + k);
        for (int k = 0; k < n; k++) put(other, j + k, were[k]);
        return n;
    }

    int judge(int sheet) {
        if (!in(sheet, 0, 3)) return err(BEYOND);
        if (sheets[sheet] == null) return err(NONE);
        World w = now.copy();
        w.thumb = 0;
        int said = 0;
        for (int i = 0; i < length(sheet); i++) {
            int word = number(sheet, i);
            if (!w.maySay(word)) break;
            w.sayAll(word);
            if (w.words.get(word).how != 1) break;
            said++;
        }
        return said;
    }

    int image() {
        kept = now.copy();
        return ++images;
    }

    int restore() {
        if (kept == null) return err(NONE);
        now = kept.copy();
        return now.second;
    }

    int tell(int v) {
        if (now.waiting.size() == 20) return err(FULL);
        now.waiting.add(v);
        return now.waiting.size();
    }

    int check() {
        World w = now.copy();
        List<Integer> waited = new ArrayList<>(now.waiting);
        now.waiting.clear();
        for (int i = 0; i < waited.size(); i++) {
            w.second();
            if (w.floor != waited.get(i)) return 1 + i;
        }
        return 0;
    }

    int count(int what) {
        if (!in(what, 0, 11)) return err(BEYOND);
        int water = 0;
        for (Man p : now.men) water += p.water;
        return new int[] {now.men.size(), now.words.size(), now.second, now.floor, now.thumb, now.hand,
            now.hand == -1 ? 0 : now.toGo, water, now.tape.size(), now.waiting.size(),
            Math.min(40, bodies.size()), now.z}[what];
    }

    int told(int k) {
        return in(k, 1, 5) ? refused[k] : err(BEYOND);
    }
}
