/** A court in which one speaks as long as water runs out of one's own pail. */
public final class PailSpeech {
    private static final int LOW = -1000000000;
    private static final int BEYOND = 1;
    private static final int NONE = 2;
    private static final int STATE = 3;
    private static final int FULL = 4;
    private static final int KIND = 5;

    private static final int MOST_PARTIES = 4;
    private static final int MOST_WORDS = 12;
    private static final int MOST_SIZE = 999;
    private static final int MOST_LONG = 30;
    private static final int MOST_WORTH = 99;
    private static final int MOST_HEARD = 99999;
    private static final int MOST_SECOND = 99999;
    private static final int MOST_FLOOR = 999999;
    private static final int MOST_SECONDS = 300;
    private static final int MOST_EAR = 999;
    private static final int MOST_TAPE = 50;
    private static final int MOST_OPEN = 5;
    private static final int MOST_ROW = 5;
    private static final int MOST_PICKS = 4;
    private static final int MOST_PICKED = 4;
    private static final int MOST_WAITING = 20;
    private static final int MOST_NUMBERS = 40;
    private static final int MOST_TRACE = 40;
    private static final int SHEETS = 4;
    private static final int SIXTEEN = 16;

    private static final int NOTHING = -1;
    private static final int UNSAID = 0;
    private static final int SAID = 1;
    private static final int CUT = 2;
    private static final int EAR = 0;
    private static final int SPILL = 1;

    private final State now = new State();
    private final State kept = new State();
    private int images;
    private final Flow ahead = new Flow();
    private final Reader reader = new Reader();
    private final Orator orator = new Orator();
    private final Joined joined = new Joined();
    private final Duel duel = new Duel();
    private final Scales scales = new Scales();
    private final Chorus chorus = new Chorus();
    private final Sheets rows = new Sheets();
    private final int[] refused = new int[KIND + 1];

    public PailSpeech() {
    }

    // ---- parties, words

    public int party(int km, int size) {
        if (!isKm(km) || !within(size, 1, MOST_SIZE)) {
            return refuse(BEYOND);
        }
        if (now.parties >= MOST_PARTIES) {
            return refuse(FULL);
        }
        return now.addParty(km, size);
    }

    public int ofParty(int party, int what) {
        if (!now.hasParty(party) || !within(what, 0, 7)) {
            return refuse(BEYOND);
        }
        switch (what) {
            case 0:
                return now.kind[party];
            case 1:
                return now.m[party];
            case 2:
                return now.size[party];
            case 3:
                return now.flow.water[party];
            case 4:
                return now.flow.heard[party];
            case 5:
                return now.runs(party);
            case 6:
                return now.drips(party);
            default:
                return now.saidOf(party);
        }
    }

    public int become(int party, int km) {
        if (!now.hasParty(party) || !isKm(km)) {
            return refuse(BEYOND);
        }
        int old = now.kind[party];
        now.kind[party] = km / 10;
        now.m[party] = km % 10;
        return old;
    }

    public int as(int party, int kind) {
        if (!now.hasParty(party) || !within(kind, 0, Kinds.LAST)) {
            return refuse(BEYOND);
        }
        if (!Kinds.isUnder(now.kind[party], kind)) {
            return refuse(KIND);
        }
        return now.m[party];
    }

    public int word(int party, int takes, int worth, int behind) {
        if (!now.hasParty(party) || !within(takes, 1, MOST_LONG) || !within(worth, 0, MOST_WORTH)
                || !within(behind, NOTHING, now.words - 1)) {
            return refuse(BEYOND);
        }
        if (now.words >= MOST_WORDS) {
            return refuse(FULL);
        }
        return now.addWord(party, takes, worth, behind);
    }

    public int ofWord(int word, int what) {
        if (!now.hasWord(word) || !within(what, 0, 4)) {
            return refuse(BEYOND);
        }
        switch (what) {
            case 0:
                return now.whose[word];
            case 1:
                return now.takes[word];
            case 2:
                return now.worth[word];
            case 3:
                return now.behind[word];
            default:
                return now.flow.how[word];
        }
    }

    public int set(int word, int what, int v) {
        if (!now.hasWord(word) || !within(what, 1, 2)
                || !within(v, what == 1 ? 1 : 0, what == 1 ? MOST_LONG : MOST_WORTH)) {
            return refuse(BEYOND);
        }
        if (now.flow.how[word] != UNSAID || now.flow.hand == word) {
            return refuse(STATE);
        }
        int[] row = what == 1 ? now.takes : now.worth;
        int old = row[word];
        row[word] = v;
        return old;
    }

    // ---- water

    public int fetch(int party, int n) {
        if (!now.hasParty(party) || !within(n, 1, 999)) {
            return refuse(BEYOND);
        }
        int water = Math.min(now.size[party], now.flow.water[party] + n);
        now.flow.water[party] = water;
        return water;
    }

    public int pour(int from, int to, int n) {
        if (!areTwo(from, to) || !within(n, 1, 999)) {
            return refuse(BEYOND);
        }
        int[] water = now.flow.water;
        if (water[from] < n) {
            return refuse(STATE);
        }
        if (water[to] + n > now.size[to]) {
            return refuse(FULL);
        }
        water[from] -= n;
        water[to] += n;
        return water[to];
    }

    public int object(int party, int n) {
        if (!now.hasParty(party) || !within(n, 1, 99)) {
            return refuse(BEYOND);
        }
        Flow flow = now.flow;
        int speaker = now.speaker(flow);
        if (speaker == NOTHING || speaker == party || flow.water[party] < n) {
            return refuse(STATE);
        }
        flow.floorGets(flow.lose(party, n));
        flow.floorGets(flow.lose(speaker, 2 * n));
        return flow.water[speaker];
    }

    public int thumb(int v) {
        if (!within(v, 0, 1)) {
            return refuse(BEYOND);
        }
        int old = now.flow.thumb;
        now.flow.thumb = v;
        return old;
    }

    // ---- the hearing

    public int say(int word) {
        if (!now.hasWord(word)) {
            return refuse(BEYOND);
        }
        if (!now.maySay(now.flow, word)) {
            return refuse(STATE);
        }
        now.begin(now.flow, word);
        return now.takes[word];
    }

    public int stop() {
        int word = now.flow.hand;
        if (!now.hasWord(word)) {
            return refuse(NONE);
        }
        now.flow.end(word, CUT);
        return word;
    }

    public int seconds(int n) {
        if (!within(n, 1, MOST_SECONDS)) {
            return refuse(BEYOND);
        }
        if (now.flow.second + n > MOST_SECOND) {
            return refuse(STATE);
        }
        now.pass(now.flow, n);
        return now.flow.floor;
    }

    public int loose(int n) {
        if (!within(n, 1, MOST_SECONDS)) {
            return refuse(BEYOND);
        }
        if (now.flow.second + n > MOST_SECOND) {
            return refuse(STATE);
        }
        for (int i = 0; i < n; i++) {
            now.loseByDraws();
            now.pass(now.flow, 1);
        }
        return now.flow.floor;
    }

    public int then(int n, int party, int what) {
        if (!within(n, 0, MOST_SECONDS) || !now.hasParty(party) || !within(what, 0, 3)) {
            return refuse(BEYOND);
        }
        ahead.copy(now.flow);
        now.pass(ahead, n);
        switch (what) {
            case 0:
                return ahead.water[party];
            case 1:
                return ahead.heard[party];
            case 2:
                return ahead.floor;
            default:
                return ahead.hand;
        }
    }

    // ---- texts

    public int feed(long word, int n) {
        if (!within(n, 1, 8)) {
            return refuse(BEYOND);
        }
        if (now.bytes + n > MOST_TAPE) {
            return refuse(FULL);
        }
        for (int i = 0; i < n; i++) {
            now.tape[now.bytes] = (int) (word >>> (8 * i)) & 255;
            now.bytes++;
        }
        return now.bytes;
    }

    public int text(int use) {
        if (!within(use, EAR, SPILL)) {
            return refuse(BEYOND);
        }
        int fault = reader.read(now.tape, now.bytes, use);
        now.bytes = 0;
        if (fault != NOTHING) {
            return -10 - fault;
        }
        (use == EAR ? now.ear : now.spill).copy(reader.result);
        return 1;
    }

    public int law(int use, int a, int b, int c) {
        if (!within(use, EAR, SPILL) || (use == SPILL && !within(a, 0, 999))) {
            return refuse(BEYOND);
        }
        return use == EAR ? now.earBy(a, b, c) : now.spillBy(a, b, c);
    }

    // ---- what would be best

    public int best(int set, int what) {
        if (!within(set, 1, now.sets() - 1) || !within(what, -2, MOST_ROW - 1)) {
            return refuse(BEYOND);
        }
        orator.find(now, set);
        if (what == -2) {
            return orator.brings;
        }
        if (what == -1) {
            return orator.length;
        }
        return what < orator.length ? orator.row[what] : refuse(NONE);
    }

    public long share(int party, int part) {
        if (!now.hasParty(party) || !within(part, 0, 1)) {
            return refuse(BEYOND);
        }
        joined.weigh(now, orator);
        return partOf(joined.above[party], joined.orders, part);
    }

    public int leaves() {
        joined.weigh(now, orator);
        int set = joined.leastLeaving();
        return set == 0 ? refuse(NONE) : set;
    }

    public int game(int one, int other, int n, int what) {
        if (!areTwo(one, other) || !within(n, 1, MOST_PICKS) || !within(what, 0, 1)) {
            return refuse(BEYOND);
        }
        int value = duel.play(now, one, other, n);
        return what == 0 ? value : duel.first;
    }

    public long odds(int one, int other, int u, int part) {
        if (!areTwo(one, other) || !within(u, 0, SIXTEEN) || !within(part, 0, 1)) {
            return refuse(BEYOND);
        }
        scales.weigh(now, one, other, u);
        return partOf(scales.above, scales.below, part);
    }

    public int carried(int party, int seconds, int steps, int what) {
        if (!now.hasParty(party) || !within(seconds, 1, 9999) || !within(steps, 1, 99)
                || !within(what, 0, 1)) {
            return refuse(BEYOND);
        }
        int load = 0;
        int most = NOTHING;
        for (int l = 1; l <= now.size[party]; l++) {
            int ways = quotient(seconds, steps * (2 + l / 20));
            int comes = ways == 0 ? 0 : ways * (l - now.spillBy(l, steps, now.m[party]));
            if (comes > most) {
                most = comes;
                load = l;
            }
        }
        return what == 0 ? load : most;
    }

    public int explained(int party, int sheet) {
        if (!now.hasParty(party) || !rows.has(sheet)) {
            return refuse(BEYOND);
        }
        if (rows.isMissing(sheet)) {
            return refuse(NONE);
        }
        int old = now.m[party];
        int least = NOTHING;
        for (int m = 0; m <= 9 && least == NOTHING; m++) {
            now.m[party] = m;
            if (firstUnlike(rows.numbers[sheet], rows.many[sheet]) == NOTHING) {
                least = m;
            }
        }
        now.m[party] = old;
        return least == NOTHING ? refuse(NONE) : least;
    }

    // ---- draws, voices, sheets, images, what is told

    public int seed(int v) {
        int old = now.z;
        now.z = v;
        return old;
    }

    public int voice(int party, int act, int x) {
        if (!now.hasParty(party) || !within(act, 0, Chorus.ACTS - 1)) {
            return refuse(BEYOND);
        }
        return chorus.answer(now.kind[party], party, now.m[party], act, x);
    }

    public int trace(int i) {
        return within(i, 0, chorus.begun - 1) ? chorus.bodies[i] : refuse(NONE);
    }

    public int sheet(int sheet, int bits, int n) {
        if (!rows.has(sheet) || (bits != 0 && bits != 8 && bits != 16 && bits != 32)) {
            return refuse(BEYOND);
        }
        if (bits != 0 && n < 0) {
            return refuse(STATE);
        }
        if (bits != 0 && n > MOST_NUMBERS) {
            return refuse(BEYOND);
        }
        rows.lay(sheet, bits, bits == 0 ? 0 : n);
        return 1;
    }

    public int put(int sheet, int i, int v) {
        if (!rows.has(sheet)) {
            return refuse(BEYOND);
        }
        if (rows.isMissing(sheet)) {
            return refuse(NONE);
        }
        if (!within(i, 0, rows.many[sheet] - 1)) {
            return refuse(BEYOND);
        }
        rows.numbers[sheet][i] = rows.cutTo(rows.bits[sheet], v);
        return 1;
    }

    public int move(int sheet, int i, int other, int j, int n) {
        if (!rows.has(sheet) || !rows.has(other)) {
            return refuse(BEYOND);
        }
        if (rows.isMissing(sheet) || rows.isMissing(other)) {
            return refuse(NONE);
        }
        if (rows.bits[sheet] != rows.bits[other]) {
            return refuse(KIND);
        }
        if (!rows.stand(sheet, i, n) || !rows.stand(other, j, n)) {
            return refuse(BEYOND);
        }
        System.arraycopy(rows.numbers[sheet], i, rows.numbers[other], j, n);
        return n;
    }

    public int judge(int sheet) {
        if (!rows.has(sheet)) {
            return refuse(BEYOND);
        }
        if (rows.isMissing(sheet)) {
            return refuse(NONE);
        }
        ahead.copy(now.flow);
        ahead.thumb = 0;
        int many = rows.many[sheet];
        for (int i = 0; i < many; i++) {
            int word = rows.numbers[sheet][i];
            if (!now.hasWord(word) || !now.maySay(ahead, word)) {
                return i;
            }
            now.begin(ahead, word);
            now.pass(ahead, now.tillEnd(ahead));
            if (ahead.how[word] != SAID) {
                return i;
            }
        }
        return many;
    }

    public int image() {
        kept.copy(now);
        images++;
        return images;
    }

    public int restore() {
        if (images == 0) {
            return refuse(NONE);
        }
        now.copy(kept);
        return now.flow.second;
    }

    public int tell(int v) {
        if (now.waits >= MOST_WAITING) {
            return refuse(FULL);
        }
        now.waiting[now.waits] = v;
        now.waits++;
        return now.waits;
    }

    public int check() {
        int unlike = firstUnlike(now.waiting, now.waits);
        now.waits = 0;
        return unlike == NOTHING ? 0 : 1 + unlike;
    }

    public int count(int what) {
        switch (what) {
            case 0:
                return now.parties;
            case 1:
                return now.words;
            case 2:
                return now.flow.second;
            case 3:
                return now.flow.floor;
            case 4:
                return now.flow.thumb;
            case 5:
                return now.flow.hand;
            case 6:
                return now.flow.toGo;
            case 7:
                return now.waterOf(now.sets() - 1);
            case 8:
                return now.bytes;
            case 9:
                return now.waits;
            case 10:
                return chorus.begun;
            case 11:
                return now.z;
            default:
                return refuse(BEYOND);
        }
    }

    public int told(int k) {
        return within(k, BEYOND, KIND) ? refused[k] : refuse(BEYOND);
    }

    // ---- what the calls share

    /** Counts an ERROR for told() and gives it. */
    private int refuse(int error) {
        if (within(error, 0, refused.length - 1)) {
            refused[error]++;
        }
        return LOW - error;
    }

    private static boolean within(int v, int least, int most) {
        return v >= least && v <= most;
    }

    private static boolean isKm(int km) {
        return within(km, 0, Kinds.LAST * 10 + 9);
    }

    private boolean areTwo(int one, int other) {
        return now.hasParty(one) && now.hasParty(other) && one != other;
    }

    /** The place of the first number that isn't FLOOR behind as many SECONDS AHEAD, or NOTHING. */
    private int firstUnlike(int[] numbers, int many) {
        ahead.copy(now.flow);
        for (int i = 0; i < many && i < numbers.length; i++) {
            now.pass(ahead, 1);
            if (ahead.floor != numbers[i]) {
                return i;
            }
        }
        return NOTHING;
    }

    private static int held(int v, int least, int most) {
        return Math.max(least, Math.min(most, v));
    }

    private static int quotient(int a, int b) {
        return b == 0 ? 0 : a / b;
    }

    /** The greatest number that goes into both; none of them is below 0. */
    private static long common(long a, long b) {
        long x = a;
        long y = b;
        // Two rounds at least halve x: no long needs as many as here.
        for (int i = 0; i < 200 && y != 0; i++) {
            long rest = x % y;
            x = y;
            y = rest;
        }
        return x;
    }

    /** What is above (part 0) or below the line of a fraction in lowest terms. */
    private static long partOf(long above, long below, int part) {
        long by = common(Math.abs(above), below);
        long whole = part == 0 ? above : below;
        return by == 0 ? whole : whole / by;
    }

    /** What the KINDS do with their pails. */
    private static final class Kinds {
        static final int PARTY = 0;
        static final int LEAKY = 1;
        static final int ICED = 2;
        static final int DUMB = 3;
        static final int HOLED = 4;
        static final int FROZEN = 5;
        static final int GESTURED = 6;
        static final int LAST = GESTURED;

        /** The KIND above, or NOTHING above PARTY. */
        static int above(int kind) {
            switch (kind) {
                case LEAKY:
                case ICED:
                case DUMB:
                    return PARTY;
                case HOLED:
                    return LEAKY;
                case FROZEN:
                    return ICED;
                case GESTURED:
                    return DUMB;
                default:
                    return NOTHING;
            }
        }

        static boolean isUnder(int kind, int other) {
            int k = kind;
            for (int i = 0; i <= LAST && k != NOTHING; i++) {
                if (k == other) {
                    return true;
                }
                k = above(k);
            }
            return false;
        }

        static int runs(int kind, int m) {
            int iced = atLeastOne(5 - m / 2);
            switch (kind) {
                case LEAKY:
                    return 5 + m;
                case ICED:
                    return iced;
                case DUMB:
                    return 1;
                case HOLED:
                    return 2 * (5 + m);
                case FROZEN:
                    return atLeastOne(iced / 2);
                case GESTURED:
                    return 1 + m;
                default:
                    return 5;
            }
        }

        private static int atLeastOne(int drops) {
            return drops < 1 ? 1 : drops;
        }

        static int drips(int kind, int m) {
            switch (kind) {
                case LEAKY:
                    return m / 2;
                case HOLED:
                    return m / 2 + 1;
                case DUMB:
                case GESTURED:
                    return 1;
                default:
                    return 0;
            }
        }
    }

    /** What moves while SECONDS go by; kept apart so that AHEAD needs a small copy alone. */
    private static final class Flow {
        final int[] water = new int[MOST_PARTIES];
        final int[] heard = new int[MOST_PARTIES];
        final int[] how = new int[MOST_WORDS];
        int second;
        int floor;
        int thumb;
        int hand = NOTHING;
        int toGo;

        void copy(Flow other) {
            System.arraycopy(other.water, 0, water, 0, MOST_PARTIES);
            System.arraycopy(other.heard, 0, heard, 0, MOST_PARTIES);
            System.arraycopy(other.how, 0, how, 0, MOST_WORDS);
            second = other.second;
            floor = other.floor;
            thumb = other.thumb;
            hand = other.hand;
            toGo = other.toGo;
        }

        /** Takes drops out of a PAIL, as much as there is: how many these are. */
        int lose(int party, int drops) {
            if (!within(party, 0, water.length - 1)) {
                return 0;
            }
            int gone = Math.min(water[party], drops);
            water[party] -= gone;
            return gone;
        }

        void floorGets(int drops) {
            floor = Math.min(MOST_FLOOR, floor + drops);
        }

        void end(int word, int as) {
            if (within(word, 0, how.length - 1)) {
                how[word] = as;
            }
            hand = NOTHING;
            toGo = 0;
        }
    }

    /** All that an IMAGE keeps. */
    private static final class State {
        int parties;
        final int[] kind = new int[MOST_PARTIES];
        final int[] m = new int[MOST_PARTIES];
        final int[] size = new int[MOST_PARTIES];
        int words;
        final int[] whose = new int[MOST_WORDS];
        final int[] takes = new int[MOST_WORDS];
        final int[] worth = new int[MOST_WORDS];
        final int[] behind = new int[MOST_WORDS];
        final Flow flow = new Flow();
        final Text ear = new Text();
        final Text spill = new Text();
        final int[] tape = new int[MOST_TAPE];
        int bytes;
        final int[] waiting = new int[MOST_WAITING];
        int waits;
        int z = 1;

        void copy(State other) {
            parties = other.parties;
            System.arraycopy(other.kind, 0, kind, 0, MOST_PARTIES);
            System.arraycopy(other.m, 0, m, 0, MOST_PARTIES);
            System.arraycopy(other.size, 0, size, 0, MOST_PARTIES);
            words = other.words;
            System.arraycopy(other.whose, 0, whose, 0, MOST_WORDS);
            System.arraycopy(other.takes, 0, takes, 0, MOST_WORDS);
            System.arraycopy(other.worth, 0, worth, 0, MOST_WORDS);
            System.arraycopy(other.behind, 0, behind, 0, MOST_WORDS);
            flow.copy(other.flow);
            ear.copy(other.ear);
            spill.copy(other.spill);
            System.arraycopy(other.tape, 0, tape, 0, MOST_TAPE);
            bytes = other.bytes;
            System.arraycopy(other.waiting, 0, waiting, 0, MOST_WAITING);
            waits = other.waits;
            z = other.z;
        }

        boolean hasParty(int party) {
            return party >= 0 && party < parties && party < MOST_PARTIES;
        }

        boolean hasWord(int word) {
            return word >= 0 && word < words && word < MOST_WORDS;
        }

        /** How many sets of PARTIES there are, the empty one too. */
        int sets() {
            return 1 << parties;
        }

        int addParty(int km, int drops) {
            int party = parties;
            if (!within(party, 0, MOST_PARTIES - 1)) {
                return NOTHING;
            }
            parties++;
            kind[party] = km / 10;
            m[party] = km % 10;
            size[party] = drops;
            flow.water[party] = 0;
            flow.heard[party] = 0;
            return party;
        }

        int addWord(int party, int seconds, int value, int ahead) {
            int word = words;
            if (!within(word, 0, MOST_WORDS - 1)) {
                return NOTHING;
            }
            words++;
            whose[word] = party;
            takes[word] = seconds;
            worth[word] = value;
            behind[word] = ahead;
            flow.how[word] = UNSAID;
            return word;
        }

        int runs(int party) {
            return hasParty(party) ? Kinds.runs(kind[party], m[party]) : 1;
        }

        int drips(int party) {
            return hasParty(party) ? Kinds.drips(kind[party], m[party]) : 0;
        }

        int saidOf(int party) {
            int said = 0;
            for (int w = 0; w < words && w < MOST_WORDS; w++) {
                if (whose[w] == party && flow.how[w] == SAID) {
                    said++;
                }
            }
            return said;
        }

        int waterOf(int set) {
            int all = 0;
            for (int p = 0; p < parties && p < MOST_PARTIES; p++) {
                if ((set >> p & 1) == 1) {
                    all += flow.water[p];
                }
            }
            return all;
        }

        int earBy(int value, int seconds, int heard) {
            return held(ear.isThere() ? ear.value(value, seconds, heard) : value, 0, MOST_EAR);
        }

        int spillBy(int load, int steps, int leak) {
            int drops = spill.isThere() ? spill.value(load, steps, leak) : load * leak / 50;
            return held(drops, 0, load);
        }

        /** The PARTY whose WORD is IN HAND, or NOTHING. */
        int speaker(Flow f) {
            return hasWord(f.hand) ? whose[f.hand] : NOTHING;
        }

        /** Whether what a WORD must stand behind is SAID. */
        boolean isFree(Flow f, int word) {
            if (!hasWord(word)) {
                return false;
            }
            int other = behind[word];
            return !hasWord(other) || f.how[other] == SAID;
        }

        boolean maySay(Flow f, int word) {
            return f.hand == NOTHING && hasWord(word) && f.how[word] == UNSAID && isFree(f, word);
        }

        void begin(Flow f, int word) {
            if (hasWord(word)) {
                f.hand = word;
                f.toGo = takes[word];
            }
        }

        /** How many SECONDS go by till nothing is IN HAND, the one of a CUT too. */
        int tillEnd(Flow f) {
            int party = speaker(f);
            if (!hasParty(party)) {
                return 0;
            }
            int whole = quotient(f.water[party], runs(party));
            return whole >= f.toGo ? f.toGo : whole + 1;
        }

        /** n SECONDS in one step: the ones with a WORD IN HAND, then those without. */
        void pass(Flow f, int n) {
            f.second += n;
            if (f.thumb != 0) {
                return;
            }
            int word = f.hand;
            int party = speaker(f);
            int spoken = Math.min(n, tillEnd(f));
            if (hasWord(word) && hasParty(party) && spoken > 0) {
                boolean dry = f.water[party] < spoken * runs(party);
                drain(f, spoken);
                f.toGo -= spoken;
                if (dry) {
                    f.end(word, CUT);
                } else if (f.toGo <= 0) {
                    int heard = f.heard[party];
                    f.heard[party] = Math.min(MOST_HEARD, heard + earBy(worth[word], takes[word], heard));
                    f.end(word, SAID);
                }
            }
            if (n > spoken) {
                drain(f, n - spoken);
            }
        }

        private void drain(Flow f, int n) {
            int speaker = speaker(f);
            for (int p = 0; p < parties && p < MOST_PARTIES; p++) {
                int drops = n * (p == speaker ? runs(p) : drips(p));
                f.floorGets(f.lose(p, drops));
            }
        }

        /** What LOOSE SECONDS lose ahead of each; both draws are made for any PARTY. */
        void loseByDraws() {
            int party = draw() % 4;
            int drops = draw() % 6;
            if (hasParty(party)) {
                flow.lose(party, drops);
            }
        }

        private int draw() {
            z = z * 1103515245 + 12345;
            return z >>> 8;
        }
    }

    /** A TEXT as steps upon a stack: a number as it is, a NAME as -1 .. -3, a sign less its byte. */
    private static final class Text {
        private final int[] steps = new int[MOST_TAPE];
        private final int[] stack = new int[MOST_TAPE];
        private int many;

        boolean isThere() {
            return many > 0;
        }

        void clear() {
            many = 0;
        }

        void add(int step) {
            if (within(many, 0, steps.length - 1)) {
                steps[many] = step;
                many++;
            }
        }

        void copy(Text other) {
            System.arraycopy(other.steps, 0, steps, 0, MOST_TAPE);
            many = other.many;
        }

        int value(int a, int b, int c) {
            int top = 0;
            for (int i = 0; i < many && i < steps.length; i++) {
                int step = steps[i];
                if (step >= -3) {
                    if (top < stack.length) {
                        stack[top] = step >= 0 ? step : step == -1 ? a : step == -2 ? b : c;
                        top++;
                    }
                } else if (step == -'!') {
                    if (within(top, 1, stack.length)) {
                        stack[top - 1] = truth(stack[top - 1] == 0);
                    }
                } else if (within(top, 2, stack.length)) {
                    stack[top - 2] = joint(-step, stack[top - 2], stack[top - 1]);
                    top--;
                }
            }
            return stack[0];
        }

        private static int truth(boolean is) {
            return is ? 1 : 0;
        }

        private static int joint(int sign, int a, int b) {
            switch (sign) {
                case '|':
                    return truth(a != 0 || b != 0);
                case '&':
                    return truth(a != 0 && b != 0);
                case '<':
                    return truth(a < b);
                case '=':
                    return truth(a == b);
                case '>':
                    return truth(a > b);
                case '+':
                    return a + b;
                case '-':
                    return a - b;
                case '*':
                    return a * b;
                case '/':
                    return b == 0 ? 0 : a / b;
                default:
                    return b == 0 ? 0 : a % b;
            }
        }
    }

    /** Reads THE TAPE by the rules T, A, B, S, P, Q; where one answers false, FAULT is at. */
    private static final class Reader {
        private static final String EAR_NAMES = "wlh";
        private static final String SPILL_NAMES = "lsm";

        final Text result = new Text();
        private int[] tape;
        private int bytes;
        private int at;
        private String names = EAR_NAMES;

        /** NOTHING, with the TEXT as the result; or FAULT. */
        int read(int[] from, int many, int use) {
            tape = from;
            bytes = many;
            at = 0;
            names = use == EAR ? EAR_NAMES : SPILL_NAMES;
            result.clear();
            boolean whole = readT(0) && at == bytes;
            return whole ? NOTHING : at;
        }

        /** The byte that comes next, or NOTHING at the end. */
        private int next() {
            return tape != null && at < bytes && within(at, 0, tape.length - 1) ? tape[at] : NOTHING;
        }

        private boolean readT(int open) {
            if (open > MOST_OPEN || !readA(open)) {
                return false;
            }
            for (int i = 0; i < MOST_TAPE && next() == '|'; i++) {
                at++;
                if (!readA(open)) {
                    return false;
                }
                result.add(-'|');
            }
            return true;
        }

        private boolean readA(int open) {
            if (!readB(open)) {
                return false;
            }
            for (int i = 0; i < MOST_TAPE && next() == '&'; i++) {
                at++;
                if (!readB(open)) {
                    return false;
                }
                result.add(-'&');
            }
            return true;
        }

        private boolean readB(int open) {
            if (!readS(open)) {
                return false;
            }
            int sign = next();
            if (sign != '<' && sign != '=' && sign != '>') {
                return true;
            }
            at++;
            if (!readS(open)) {
                return false;
            }
            result.add(-sign);
            return true;
        }

        private boolean readS(int open) {
            if (!readP(open)) {
                return false;
            }
            for (int i = 0; i < MOST_TAPE && (next() == '+' || next() == '-'); i++) {
                int sign = next();
                at++;
                if (!readP(open)) {
                    return false;
                }
                result.add(-sign);
            }
            return true;
        }

        private boolean readP(int open) {
            if (!readQ(open)) {
                return false;
            }
            for (int i = 0; i < MOST_TAPE && (next() == '*' || next() == '/' || next() == '%'); i++) {
                int sign = next();
                at++;
                if (!readQ(open)) {
                    return false;
                }
                result.add(-sign);
            }
            return true;
        }

        private boolean readQ(int open) {
            int sign = next();
            if (isDigit(sign)) {
                readNumber();
                return true;
            }
            if (sign == '!' || sign == '(') {
                return open < MOST_OPEN && readOpen(sign, open + 1);
            }
            int name = sign == NOTHING ? NOTHING : names.indexOf((char) sign);
            if (name < 0) {
                return false;
            }
            at++;
            result.add(-1 - name);
            return true;
        }

        private boolean readOpen(int sign, int open) {
            at++;
            if (sign == '!') {
                if (!readQ(open)) {
                    return false;
                }
                result.add(-'!');
                return true;
            }
            if (!readT(open) || next() != ')') {
                return false;
            }
            at++;
            return true;
        }

        private void readNumber() {
            int number = 0;
            for (int i = 0; i < 4 && isDigit(next()); i++) {
                number = number * 10 + next() - '0';
                at++;
            }
            result.add(number);
        }

        private static boolean isDigit(int sign) {
            return within(sign, '0', '9');
        }
    }

    /** Seeks BEST SPEECH of a set of PARTIES. */
    private static final class Orator {
        final int[] row = new int[MOST_ROW];
        int length;
        int brings;
        private int seconds;
        private final int[] from = new int[MOST_ROW];
        private int many;
        private final int[] trial = new int[MOST_ROW];
        private int heard;
        private int mostSeconds;

        void find(State state, int set) {
            length = 0;
            brings = 0;
            seconds = 0;
            int least = leastOf(set);
            if (!state.hasParty(least)) {
                return;
            }
            heard = state.flow.heard[least];
            mostSeconds = quotient(state.waterOf(set), state.runs(least));
            gather(state, set);
            lengthen(state, 0, 0, 0, 0);
        }

        private static int leastOf(int set) {
            int p = 0;
            while (p < MOST_PARTIES && (set >> p & 1) == 0) {
                p++;
            }
            return p;
        }

        private void gather(State state, int set) {
            many = 0;
            for (int w = 0; w < state.words && w < MOST_WORDS && many < MOST_ROW; w++) {
                if ((set >> state.whose[w] & 1) == 1 && state.flow.how[w] == UNSAID) {
                    from[many] = w;
                    many++;
                }
            }
        }

        /** Tries the rows in their order, so that of equal ones the first stays. */
        private void lengthen(State state, int depth, int used, int taken, int sum) {
            for (int i = 0; i < many && i < MOST_ROW && depth < MOST_ROW; i++) {
                if (mayCome(state, from[i], used)) {
                    append(state, from[i], depth, used, taken, sum);
                }
            }
        }

        /** A WORD comes behind those of the trial, if there is WATER for it. */
        private void append(State state, int word, int depth, int used, int taken, int sum) {
            if (!state.hasWord(word) || !within(depth, 0, MOST_ROW - 1)) {
                return;
            }
            int time = taken + state.takes[word];
            if (time > mostSeconds) {
                return;
            }
            int more = sum + state.earBy(state.worth[word], state.takes[word], heard + sum);
            trial[depth] = word;
            keepIfBetter(depth + 1, time, more);
            lengthen(state, depth + 1, used | 1 << word, time, more);
        }

        /** used holds the WORDS of the trial as bits. */
        private static boolean mayCome(State state, int word, int used) {
            if (!state.hasWord(word) || (used >> word & 1) == 1) {
                return false;
            }
            return state.isFree(state.flow, word) || (used >> state.behind[word] & 1) == 1;
        }

        private void keepIfBetter(int words, int time, int sum) {
            if (sum > brings || (sum == brings && time < seconds)) {
                System.arraycopy(trial, 0, row, 0, held(words, 0, MOST_ROW));
                length = words;
                brings = sum;
                seconds = time;
            }
        }
    }

    /** SHARES of all PARTIES, and who would leave. */
    private static final class Joined {
        /** SHARES times orders. */
        final int[] above = new int[MOST_PARTIES];
        int orders;
        private final int[] bests = new int[1 << MOST_PARTIES];
        private int sets;

        void weigh(State state, Orator orator) {
            int parties = Math.min(state.parties, MOST_PARTIES);
            sets = 1 << parties;
            bests[0] = 0;
            for (int set = 1; set < sets && set < bests.length; set++) {
                orator.find(state, set);
                bests[set] = orator.brings;
            }
            orders = factorial(parties);
            for (int p = 0; p < parties; p++) {
                above[p] = gainOf(p, parties);
            }
        }

        /** By how much BEST is more with a PARTY than without, over all orders. */
        private int gainOf(int party, int parties) {
            int bit = 1 << party;
            int gain = 0;
            for (int set = 0; set < sets && set < bests.length; set++) {
                if ((set & bit) != 0) {
                    int ahead = Integer.bitCount(set) - 1;
                    int often = factorial(ahead) * factorial(parties - 1 - ahead);
                    gain += often * (bests[set] - bests[set ^ bit]);
                }
            }
            return gain;
        }

        /** The least set whose BEST is more than its SHARES, or 0. */
        int leastLeaving() {
            for (int set = 1; set < sets && set < bests.length; set++) {
                int shares = 0;
                for (int p = 0; p < MOST_PARTIES; p++) {
                    shares += (set >> p & 1) * above[p];
                }
                if (bests[set] * orders > shares) {
                    return set;
                }
            }
            return 0;
        }

        private static int factorial(int n) {
            int all = 1;
            for (int i = 2; i <= n; i++) {
                all *= i;
            }
            return all;
        }
    }

    /** GAME of two PARTIES. */
    private static final class Duel {
        /** The first pick; MOST_WORDS is none at all. */
        int first;
        private final Flow[] flows = new Flow[MOST_PICKS + 1];
        private int one;
        private int other;
        private int picks;

        Duel() {
            for (int i = 0; i < flows.length; i++) {
                flows[i] = new Flow();
            }
        }

        int play(State state, int oneParty, int otherParty, int n) {
            one = oneParty;
            other = otherParty;
            picks = held(n, 0, MOST_PICKS);
            Flow start = flows[0];
            start.copy(state.flow);
            start.thumb = 0;
            start.hand = NOTHING;
            start.toGo = 0;
            return turn(state, 0);
        }

        /** VALUE from a turn on; only the first turn keeps its pick. */
        private int turn(State state, int depth) {
            Flow here = flows[held(depth, 0, MOST_PICKS)];
            if (depth >= picks) {
                return growth(state, here);
            }
            int party = depth % 2 == 0 ? one : other;
            int pick = NOTHING;
            int best = 0;
            int unsaid = 0;
            for (int w = 0; w < state.words && w < MOST_WORDS && unsaid < MOST_PICKED; w++) {
                if (state.whose[w] != party || here.how[w] != UNSAID) {
                    continue;
                }
                unsaid++;
                if (state.isFree(here, w)) {
                    int value = valueOf(state, w, depth);
                    if (pick == NOTHING || isBetter(value, best, depth)) {
                        pick = w;
                        best = value;
                    }
                }
            }
            int value = valueOf(state, MOST_WORDS, depth);
            if (pick == NOTHING || isBetter(value, best, depth)) {
                pick = MOST_WORDS;
                best = value;
            }
            first = depth == 0 ? pick : first;
            return best;
        }

        /** VALUE if a turn picks this WORD, or none at all. */
        private int valueOf(State state, int pick, int depth) {
            if (!within(depth, 0, MOST_PICKS - 1)) {
                return 0;
            }
            Flow next = flows[depth + 1];
            next.copy(flows[depth]);
            if (state.hasWord(pick)) {
                state.begin(next, pick);
                state.pass(next, state.tillEnd(next));
            }
            return turn(state, depth + 1);
        }

        /** What is good for the other one is bad for the one. */
        private static boolean isBetter(int value, int best, int depth) {
            return depth % 2 == 0 ? value > best : value < best;
        }

        private int growth(State state, Flow end) {
            if (!state.hasParty(one) || !state.hasParty(other)) {
                return 0;
            }
            int[] was = flows[0].heard;
            return end.heard[one] - was[one] - (end.heard[other] - was[other]);
        }
    }

    /** ODDS that one is heard more. */
    private static final class Scales {
        long above;
        long below;
        private final int[] sums = new int[1 << MOST_ROW];
        private final long[] often = new long[1 << MOST_ROW];
        private final int[] otherSums = new int[1 << MOST_ROW];
        private final long[] otherOften = new long[1 << MOST_ROW];

        void weigh(State state, int one, int other, int u) {
            int many = lay(state, one, u, sums, often);
            int otherMany = lay(state, other, u, otherSums, otherOften);
            above = 0;
            below = 0;
            for (int i = 0; i < many && i < sums.length; i++) {
                for (int j = 0; j < otherMany && j < otherSums.length; j++) {
                    long both = often[i] * otherOften[j];
                    below += both;
                    if (sums[i] > otherSums[j]) {
                        above += both;
                    }
                }
            }
        }

        /** WORTH of each set of SAID WORDS that may be heard, and how often (of 16 to each): how many sets. */
        private static int lay(State state, int party, int u, int[] sums, long[] often) {
            sums[0] = 0;
            often[0] = 1;
            int many = 1;
            int said = 0;
            for (int w = 0; w < state.words && w < MOST_WORDS && said < MOST_ROW; w++) {
                if (state.whose[w] != party || state.flow.how[w] != SAID) {
                    continue;
                }
                said++;
                for (int i = 0; i < many && many + i < sums.length; i++) {
                    sums[many + i] = sums[i] + state.worth[w];
                    often[many + i] = often[i] * u;
                    often[i] *= SIXTEEN - u;
                }
                many *= 2;
            }
            return many;
        }
    }

    /** VOICES, and THE TRACE of the latest one. */
    private static final class Chorus {
        static final int ACTS = 4;
        private static final int POURS = 0;
        private static final int SPEAKS = 1;
        private static final int RESTS = 2;
        private static final int TELLS = 3;
        private static final int MOST_DEPTH = 40;
        /** Of each KIND the BODIES by acts; 0: it has none of its own. */
        private static final int[] BODIES = {
            10, 11, 12, 13,
            0, 20, 0, 0,
            30, 0, 0, 0,
            0, 0, 40, 0,
            0, 50, 0, 0,
            0, 0, 0, 60,
            0, 0, 70, 71,
        };

        final int[] bodies = new int[MOST_TRACE];
        int begun;
        private int kind;
        private int n;
        private int m;

        int answer(int ofKind, int number, int leak, int act, int x) {
            kind = ofKind;
            n = number;
            m = leak;
            begun = 0;
            return call(kind, act, x, 0);
        }

        /** An act by the BODY of a KIND, or of the next one above that has one. */
        private int call(int from, int act, int x, int depth) {
            int k = from;
            for (int i = 0; i <= Kinds.LAST && within(k, 0, Kinds.LAST); i++) {
                int place = k * ACTS + act;
                int body = within(place, 0, BODIES.length - 1) ? BODIES[place] : 0;
                if (body != 0) {
                    return run(body, x, depth);
                }
                k = Kinds.above(k);
            }
            return 0;
        }

        /** An act of the PARTY itself, from within a BODY. */
        private int own(int act, int x, int depth) {
            return call(kind, act, x, depth + 1);
        }

        /** An act from the KIND above that of a BODY on. */
        private int above(int body, int act, int x, int depth) {
            return call(Kinds.above(body / 10 - 1), act, x, depth + 1);
        }

        private int run(int body, int x, int depth) {
            if (depth > MOST_DEPTH) {
                return 0;
            }
            if (within(begun, 0, bodies.length - 1)) {
                bodies[begun] = body;
                begun++;
            }
            switch (body) {
                case 10:
                    return x + n;
                case 11:
                    return own(POURS, x, depth) * 2;
                case 12:
                    return x - m;
                case 13:
                    return own(SPEAKS, x, depth) ^ own(RESTS, x, depth);
                case 20:
                    return above(body, SPEAKS, x, depth) - own(RESTS, 1, depth);
                case 30:
                    return above(body, POURS, x, depth) * 3;
                case 40:
                    return -above(body, RESTS, x, depth);
                case 50:
                    return above(body, SPEAKS, x + 1, depth);
                case 60:
                    return above(body, TELLS, x, depth) - own(POURS, 2, depth);
                case 70:
                    return above(body, RESTS, x, depth) ^ n;
                case 71:
                    return own(SPEAKS, x, depth) - above(body, TELLS, x, depth);
                default:
                    return 0;
            }
        }
    }

    /** SHEETS; one without bits is missing. */
    private static final class Sheets {
        final int[] bits = new int[SHEETS];
        final int[] many = new int[SHEETS];
        final int[][] numbers = new int[SHEETS][MOST_NUMBERS];

        boolean has(int sheet) {
            return within(sheet, 0, SHEETS - 1);
        }

        boolean isMissing(int sheet) {
            return !has(sheet) || bits[sheet] == 0;
        }

        void lay(int sheet, int width, int n) {
            if (!has(sheet) || !within(n, 0, MOST_NUMBERS)) {
                return;
            }
            bits[sheet] = width;
            many[sheet] = n;
            for (int i = 0; i < MOST_NUMBERS; i++) {
                numbers[sheet][i] = 0;
            }
        }

        /** The lowest bits of a number, with its sign, as Java's byte and short hold them. */
        int cutTo(int width, int v) {
            return width == 8 ? (byte) v : width == 16 ? (short) v : v;
        }

        /** Whether n numbers stand on a SHEET from number i on. */
        boolean stand(int sheet, int i, int n) {
            return has(sheet) && i >= 0 && n >= 0 && i <= many[sheet] && n <= many[sheet] - i;
        }
    }
}
