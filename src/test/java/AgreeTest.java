import java.util.ArrayList;
import java.util.List;

/** Long runs of drawn calls: the class and NaivePail must answer alike at each call. */
public final class AgreeTest {
    private static final int RUNS = 1500;
    private static int wrong = 0;

    private final PailSpeech real = new PailSpeech();
    private final NaivePail naive = new NaivePail();
    private final Draws d;
    private final int run;
    private final int size;
    private int calls = 0;
    private boolean off = false;
    private final List<String> told = new ArrayList<>();

    private AgreeTest(int run) {
        this.run = run;
        this.d = new Draws(run);
        this.size = new int[] {60, 200, 999}[run % 3];
    }

    private void same(String call, long got, long want) {
        calls++;
        told.add(call + " = " + got);
        if (got != want && !off) {
            off = true;
            wrong++;
            System.out.println("run " + run + ", call " + calls + ": " + call + " answered " + got + ", due is " + want);
            int first = Math.max(0, told.size() - 25);
            for (String t : told.subList(first, told.size())) System.out.println("    " + t);
        }
    }

    private int p() {
        return d.about(0, naive.now.men.size() - 1);
    }

    private int w() {
        return d.about(0, naive.now.words.size() - 1);
    }

    private void party() {
        int km = d.about(0, 69), s = d.once(4) ? d.about(1, 999) : d.from(size / 3, size);
        same("party(" + km + ", " + s + ")", real.party(km, s), naive.party(km, s));
    }

    private void word() {
        int p = p(), t = d.once(2) ? d.about(1, 30) : d.from(1, 5), w = d.once(9) ? 0 : d.about(0, 99);
        int b = d.once(2) ? -1 : d.about(-1, naive.now.words.size() - 1);
        same("word(" + p + ", " + t + ", " + w + ", " + b + ")", real.word(p, t, w, b), naive.word(p, t, w, b));
    }

    private void fetch() {
        int p = p(), n = d.once(8) ? d.about(1, 999) : d.from(1, size);
        same("fetch(" + p + ", " + n + ")", real.fetch(p, n), naive.fetch(p, n));
    }

    private void seconds() {
        int n = d.once(6) ? d.about(1, 300) : d.from(1, 6);
        same("seconds(" + n + ")", real.seconds(n), naive.seconds(n));
    }

    private void say() {
        int w = w();
        same("say(" + w + ")", real.say(w), naive.say(w));
    }

    private void feed(long word, int n) {
        same("feed(" + word + ", " + n + ")", real.feed(word, n), naive.feed(word, n));
    }

    private String operand(int deep, String names) {
        int k = d.below(deep > 2 ? 8 : 11);
        if (k < 3) return "" + d.below(new int[] {10, 100, 10000}[k]);
        if (k < 8) return "" + names.charAt(d.below(3));
        if (k == 8) return "!" + operand(deep + 1, names);
        return "(" + expression(deep + 1, names) + ")";
    }

    private String expression(int deep, String names) {
        StringBuilder s = new StringBuilder(operand(deep, names));
        int more = d.below(4);
        for (int i = 0; i < more; i++) {
            s.append("|&<=>+-*/%+-*/%".charAt(d.below(15))).append(operand(deep, names));
        }
        return s.toString();
    }

    private void text() {
        String s = expression(0, d.once(2) ? "wlh" : "lsm");
        if (d.once(4)) {
            StringBuilder t = new StringBuilder(s);
            int at = d.below(s.length());
            String signs = "wlhsm0123456789|&<=>+-*/%!()x \u00e9";
            int how = d.below(3);
            if (how == 0) t.setCharAt(at, signs.charAt(d.below(signs.length())));
            else if (how == 1) t.insert(at, "(((((((!!!!!!!".substring(d.below(14)));
            else t.setLength(at);
            s = t.toString();
        }
        for (int i = 0; i < s.length() && i < 56; i += 8) {
            int n = Math.min(8, s.length() - i);
            long word = n == 8 ? 0 : d.any() * (1L << (8 * n));
            for (int j = 0; j < n; j++) word |= (long) s.charAt(i + j) << (8 * j);
            feed(word, n);
        }
        int use = d.about(0, 1);
        same("text(" + use + ") of " + s, real.text(use), naive.text(use));
        law();
        law();
    }

    private void law() {
        int use = d.about(0, 1), a = d.once(5) ? d.any() : d.about(0, 999);
        int b = d.once(5) ? d.any() : d.about(0, 99), c = d.once(5) ? d.any() : d.about(0, 9);
        same("law(" + use + ", " + a + ", " + b + ", " + c + ")", real.law(use, a, b, c), naive.law(use, a, b, c));
    }

    private void best() {
        int set = d.about(1, (1 << naive.now.men.size()) - 1);
        for (int what = -2; what <= 4; what++) {
            int k = d.once(20) ? d.about(-2, 4) : what;
            same("best(" + set + ", " + k + ")", real.best(set, k), naive.best(set, k));
        }
    }

    private void share() {
        int p = p(), part = d.about(0, 1);
        same("share(" + p + ", " + part + ")", real.share(p, part), naive.share(p, part));
        if (d.once(2)) same("leaves()", real.leaves(), naive.leaves());
    }

    private void game() {
        int a = p(), b = p(), n = d.about(1, 4), what = d.about(0, 1);
        same("game(" + a + ", " + b + ", " + n + ", " + what + ")", real.game(a, b, n, what), naive.game(a, b, n, what));
    }

    private void odds() {
        int a = p(), b = p(), u = d.about(0, 16), part = d.about(0, 1);
        same("odds(" + a + ", " + b + ", " + u + ", " + part + ")", real.odds(a, b, u, part), naive.odds(a, b, u, part));
    }

    private void carried() {
        int p = p(), t = d.about(1, 9999), s = d.about(1, 99), what = d.about(0, 1);
        same("carried(" + p + ", " + t + ", " + s + ", " + what + ")", real.carried(p, t, s, what),
            naive.carried(p, t, s, what));
    }

    private void sheet() {
        int s = d.about(0, 3), bits = new int[] {0, 8, 16, 32, 8, 32, 7}[d.below(7)], n = d.about(0, 40);
        same("sheet(" + s + ", " + bits + ", " + n + ")", real.sheet(s, bits, n), naive.sheet(s, bits, n));
    }

    private void put(int s, int i, int v) {
        same("put(" + s + ", " + i + ", " + v + ")", real.put(s, i, v), naive.put(s, i, v));
    }

    private void move() {
        int s = d.about(0, 3), o = d.about(0, 3), i = d.about(0, 20), j = d.about(0, 20), n = d.about(0, 20);
        same("move(" + s + ", " + i + ", " + o + ", " + j + ", " + n + ")", real.move(s, i, o, j, n),
            naive.move(s, i, o, j, n));
    }

    private void explain() {
        int p = p(), s = d.below(4), n = d.from(0, 8), bits = new int[] {8, 16, 32}[d.below(3)];
        same("sheet(" + s + ", " + bits + ", " + n + ")", real.sheet(s, bits, n), naive.sheet(s, bits, n));
        NaivePail.World world = naive.now.copy();
        if (p >= 0 && p < world.men.size()) world.men.get(p).m = d.below(10);
        for (int i = 0; i < n; i++) {
            world.second();
            put(s, i, d.once(40) ? world.floor + 1 : world.floor);
        }
        same("explained(" + p + ", " + s + ")", real.explained(p, s), naive.explained(p, s));
        int any = d.about(0, 3);
        same("explained(" + p + ", " + any + ")", real.explained(p, any), naive.explained(p, any));
        if (d.once(2)) move();
        same("explained(" + p + ", " + s + ")", real.explained(p, s), naive.explained(p, s));
    }

    private void judge() {
        int s = d.about(0, 3), n = d.from(0, 6);
        same("sheet(" + s + ", 8, " + n + ")", real.sheet(s, 8, n), naive.sheet(s, 8, n));
        int word = 0;
        for (int i = 0; i < n; i++) {
            word = d.once(4) ? w() : word + d.below(3);
            put(s, i, word);
        }
        same("judge(" + s + ")", real.judge(s), naive.judge(s));
        int any = d.about(0, 3);
        same("judge(" + any + ")", real.judge(any), naive.judge(any));
    }

    private void voice() {
        int p = p(), act = d.about(0, 3), x = d.once(3) ? d.any() : d.from(-9, 99);
        same("voice(" + p + ", " + act + ", " + x + ")", real.voice(p, act, x), naive.voice(p, act, x));
        same("count(10)", real.count(10), naive.count(10));
        for (int k = 0; k < 4; k++) {
            int i = d.about(0, 12);
            same("trace(" + i + ")", real.trace(i), naive.trace(i));
        }
    }

    private void foretell() {
        int n = d.from(1, 6);
        NaivePail.World world = naive.now.copy();
        for (int i = 0; i < n; i++) {
            world.second();
            int v = d.once(12) ? d.any() : world.floor;
            same("tell(" + v + ")", real.tell(v), naive.tell(v));
        }
        if (!d.once(4)) same("check()", real.check(), naive.check());
    }

    private void look() {
        int p = p(), w = w();
        for (int what = 2; what <= 7; what++) {
            same("ofParty(" + p + ", " + what + ")", real.ofParty(p, what), naive.ofParty(p, what));
        }
        int a = d.about(0, 4), b = d.about(0, 11), c = d.about(1, 5), e = d.about(0, 7), k = d.about(0, 6);
        same("ofWord(" + w + ", " + a + ")", real.ofWord(w, a), naive.ofWord(w, a));
        same("count(" + b + ")", real.count(b), naive.count(b));
        same("told(" + c + ")", real.told(c), naive.told(c));
        same("ofParty(" + p + ", " + e + ")", real.ofParty(p, e), naive.ofParty(p, e));
        same("as(" + p + ", " + k + ")", real.as(p, k), naive.as(p, k));
    }

    private void then() {
        int n = d.once(3) ? d.about(0, 300) : d.from(0, 9), p = p(), what = d.about(0, 3);
        same("then(" + n + ", " + p + ", " + what + ")", real.then(n, p, what), naive.then(n, p, what));
    }

    private void little() {
        int p = p(), o = p(), w = w(), n = d.once(4) ? d.about(1, 99) : d.from(1, 9), k = d.below(12);
        int what = d.about(1, 2), v = d.about(1, what == 1 ? 30 : 99), km = d.about(0, 69), t = d.about(0, 1);
        switch (k) {
            case 0: same("set(" + w + ", " + what + ", " + v + ")", real.set(w, what, v), naive.set(w, what, v)); break;
            case 1: same("pour(" + p + ", " + o + ", " + n + ")", real.pour(p, o, n), naive.pour(p, o, n)); break;
            case 2:
            case 3: same("object(" + p + ", " + n + ")", real.object(p, n), naive.object(p, n)); break;
            case 4: same("thumb(" + t + ")", real.thumb(t), naive.thumb(t)); break;
            case 5: same("thumb(0)", real.thumb(0), naive.thumb(0)); break;
            case 6: same("stop()", real.stop(), naive.stop()); break;
            case 7: same("become(" + p + ", " + km + ")", real.become(p, km), naive.become(p, km)); break;
            case 8: same("seed(" + v + ")", real.seed(v), naive.seed(v)); break;
            case 9: same("image()", real.image(), naive.image()); break;
            case 10: if (d.once(3)) same("restore()", real.restore(), naive.restore()); break;
            default:
                int l = d.once(4) ? d.about(1, 300) : d.from(1, 9);
                same("loose(" + l + ")", real.loose(l), naive.loose(l));
                same("count(11)", real.count(11), naive.count(11));
                break;
        }
    }

    private void step() {
        int k = d.below(41);
        if (k < 4) word();
        else if (k < 9) fetch();
        else if (k < 13) say();
        else if (k < 17) seconds();
        else if (k < 26) little();
        else if (k < 28) look();
        else if (k < 31) then();
        else if (k == 31) text();
        else if (k == 32) best();
        else if (k == 33) share();
        else if (k == 34) game();
        else if (k == 35) odds();
        else if (k == 36) { if (d.once(3)) carried(); }
        else if (k == 37) { explain(); if (d.once(5)) sheet(); }
        else if (k == 38) judge();
        else if (k == 39) voice();
        else { foretell(); if (d.once(6)) party(); }
    }

    private void go() {
        look();
        int men = d.once(6) ? d.below(3) : d.from(2, 4);
        for (int i = 0; i < men; i++) {
            party();
            fetch();
        }
        int words = d.from(0, 14);
        for (int i = 0; i < words; i++) word();
        while (calls < 490 && !off) step();
    }

    public static void main(String[] args) {
        int runs = args.length > 0 ? Integer.parseInt(args[0]) : RUNS;
        long calls = 0;
        for (int run = 0; run < runs && wrong < 5; run++) {
            AgreeTest t = new AgreeTest(run);
            t.go();
            calls += t.calls;
        }
        System.out.println(wrong == 0 ? calls + " calls agree" : wrong + " runs do not agree");
        if (wrong != 0) System.exit(1);
    }
}
