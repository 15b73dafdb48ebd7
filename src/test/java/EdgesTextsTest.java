/** Promises 18 to 20 at their edges: THE TAPE, TEXTS, FAULTS, what is held. */
public final class EdgesTextsTest {
    private static final int[] FAR = {Integer.MIN_VALUE, Integer.MAX_VALUE};
    private static final int LOW = Integer.MIN_VALUE;
    private static final int HIGH = Integer.MAX_VALUE;

    public static void main(String[] args) {
        feed();
        feedRefused();
        lengths();
        textRefused();
        faultChangesNoLaw();
        everyByte();
        numbers();
        depth();
        shutAgain();
        comparedOnce();
        endsTooEarly();
        wraps();
        quotients();
        truths();
        orderOfSigns();
        names();
        ear();
        spill();
        lawRefused();
        Due.end();
    }

    /** What EAR's TEXT is of w, l, h before it is held: by its parts, which are held each. */
    private static void whole(String text, int w, int l, int h, int due) {
        PailSpeech x = new PailSpeech();
        Due.is("text " + text, Due.read(x, 0, text + "=" + (due < 0 ? "0-" + -due : due)), 1);
        Due.is(text + " by " + w + ", " + l + ", " + h, x.law(0, w, l, h), 1);
    }

    private static void law(String text, int w, int l, int h, int due) {
        PailSpeech x = new PailSpeech();
        Due.is("text " + text, Due.read(x, 0, text), 1);
        Due.is(text + " by " + w + ", " + l + ", " + h, x.law(0, w, l, h), due);
    }

    private static void fault(int use, String text, int due) {
        PailSpeech x = new PailSpeech();
        Due.is("USE " + use + ", FAULT of " + text, Due.read(x, use, text), due < 0 ? 1 : -10 - due);
        Due.is("THE TAPE is empty behind " + text, x.count(8), 0);
    }

    /** Promise 18: 1 to 8 bytes, the lowest first, 50 at most. */
    private static void feed() {
        long word = 'w' | '+' << 8 | 'l' << 16 | '*' << 24 | (long) 'h' << 32 | (long) '-' << 40 | (long) '1' << 48
            | (long) '2' << 56;
        int[] due = {100, -1, 102, -1, 1100, -1, 1099, 1088};
        for (int n = 1; n <= 8; n++) {
            PailSpeech x = new PailSpeech();
            Due.is("feed " + n, x.feed(word, n), n);
            Due.is("so many bytes", x.count(8), n);
            Due.is("the lowest " + n, x.text(0), due[n - 1] < 0 ? -10 - n : 1);
            if (due[n - 1] >= 0) {
                Due.is("the lowest " + n, x.law(0, 100, 2, 500), Math.min(999, due[n - 1]));
                Due.is("the lowest " + n, x.law(0, -800, 2, 500), Math.max(0, due[n - 1] - 900));
            }
        }
        PailSpeech y = new PailSpeech();
        Due.is("what is above doesn't matter", y.feed(-256L | 'w', 1), 1);
        Due.is("more come behind", y.feed(-65536L | '+' | '1' << 8, 2), 3);
        Due.is("w+1", y.text(0), 1);
        Due.is("w+1", y.law(0, 4, 0, 0), 5);
        Due.is("a byte 128 to 255 is one byte", y.feed(0x80FFL, 2), 2);
        Due.is("a byte 255 is no NAME", y.text(0), -10);
        for (int first = 42; first <= 50; first++) {
            PailSpeech x = tape(first);
            Due.is("8 behind " + first, x.feed(0, 8), first == 42 ? 50 : Due.FULL);
        }
        Due.is("1 behind 49", tape(49).feed(0, 1), 50);
        Due.is("2 behind 49", tape(49).feed(0, 2), Due.FULL);
        Due.is("1 behind 50", tape(50).feed(0, 1), Due.FULL);
    }

    private static PailSpeech tape(int bytes) {
        PailSpeech x = new PailSpeech();
        for (int i = 0; i < bytes; i++) {
            x.feed(i % 2 == 0 ? 'w' : '+', 1);
        }
        return x;
    }

    private static void feedRefused() {
        for (int n : new int[] {0, -1, 9, FAR[0], FAR[1]}) {
            Look.refused("feed " + n, Courts::rich, Due.BEYOND, x -> x.feed('9', n));
            Look.refused("feed " + n + " to a full TAPE", Courts::full, Due.BEYOND, x -> x.feed('9', n));
        }
        Look.refused("feed 1 to a full TAPE", Courts::full, Due.FULL, x -> x.feed('9', 1));
        Look.refused("feed 8 to 43", () -> tape(43), Due.FULL, x -> x.feed('9', 8));
    }

    /** Term 2: 50 bytes are read, be it that the last one fits or not. */
    private static void lengths() {
        String most = "w" + "+1".repeat(24);
        law(most, 900, 0, 0, 924);
        law(most + "0", 900, 0, 0, 933);
        // Of 50 bytes each is a step of its own.
        law("!w" + "+1".repeat(24), 0, 0, 0, 25);
        law("!w" + "-w".repeat(24), 0, 0, 0, 1);
        fault(0, most + "+", 50);
        fault(0, most + "w", 49);
        fault(0, "w+".repeat(25), 50);
        law("(" + "1*".repeat(23) + "w)", 7, 0, 0, 7);
        law("w|w&w<w+w*w|".repeat(4) + "w", 0, 0, 0, 0);
        law("w|w&w<w+w*w|".repeat(4) + "w", 1, 0, 0, 1);
        law("1&".repeat(24) + "w", 7, 0, 0, 1);
        law("0|".repeat(24) + "w", 7, 0, 0, 1);
    }

    /** Promise 19: BEYOND leaves THE TAPE, and the TEXTS, as they are. */
    private static void textRefused() {
        for (int use : new int[] {-1, 2, FAR[0], FAR[1]}) {
            Look.refused("text(" + use + ")", Courts::rich, Due.BEYOND, x -> x.text(use));
            Look.refused("text(" + use + ") of 50 bytes", Courts::full, Due.BEYOND, x -> x.text(use));
            Look.refused("text(" + use + ") of no bytes", Courts::empty, Due.BEYOND, x -> x.text(use));
        }
    }

    /** Promise 19: with a FAULT the TEXT ahead stays, THE TAPE is empty, told() tells nothing. */
    private static void faultChangesNoLaw() {
        for (int use = 0; use <= 1; use++) {
            int u = use;
            Look.Court fault = Look.after(Courts::rich, x -> {
                x.feed('+', 1);
                return x.text(u);
            });
            Look.Court good = Look.after(Courts::rich, x -> x.text(1));
            PailSpeech x = fault.made();
            PailSpeech y = Courts.rich();
            Due.is("THE TAPE is empty", x.count(8), 0);
            for (int k = 1; k <= 5; k++) {
                Due.is("no ERROR", x.told(k), y.told(k));
            }
            for (int a = 0; a <= 99; a += 9) {
                Due.is("EAR ahead stays", x.law(0, a, 7, 50), y.law(0, a, 7, 50));
                Due.is("SPILL ahead stays", x.law(1, a, 7, 50), y.law(1, a, 7, 50));
                Due.is("a TEXT of SPILL changes no EAR", good.made().law(0, a, 7, 50), y.law(0, a, 7, 50));
            }
            Due.is("in place of the one ahead", good.made().law(1, 50, 7, 9), 50);
        }
        Due.is("FAULT of l at EAR+", Look.after(Courts::rich, x -> x.feed('+', 1)).made().text(0), -14);
        Look.sameState("a FAULT at first", Courts::empty, Look.after(Courts::empty, x -> x.text(0)));
        PailSpeech z = new PailSpeech();
        Due.read(z, 0, "w+1+");
        Due.is("without a TEXT ahead there is none then", z.law(0, 5, 0, 0), 5);
        Due.read(z, 0, "7");
        Due.read(z, 0, "8)");
        Due.is("the one ahead", z.law(0, 5, 0, 0), 7);
    }

    /** Term 2: of each byte, where it may stand: first, behind an operand, behind a digit, behind a sign. */
    private static void everyByte() {
        String[] names = {"wlh", "lsm"};
        for (int use = 0; use <= 1; use++) {
            String starts = names[use] + "0123456789!(";
            String own = names[use].substring(0, 1);
            for (char c = 0; c <= 255; c++) {
                boolean starting = starts.indexOf(c) >= 0;
                boolean open = c == '!' || c == '(';
                boolean joins = "|&<=>+-*/%".indexOf(c) >= 0;
                boolean digit = c >= '0' && c <= '9';
                fault(use, "" + c, starting && !open ? -1 : starting ? 1 : 0);
                fault(use, own + c, joins ? 2 : 1);
                fault(use, "1" + c, joins ? 2 : digit ? -1 : 1);
                fault(use, "(1" + c, joins || digit || c == ')' ? (c == ')' ? -1 : 3) : 2);
                fault(use, own + "*" + c, starting && !open ? -1 : starting ? 3 : 2);
                fault(use, "!" + c, starting && !open ? -1 : starting ? 2 : 1);
                fault(use, "(" + own + ")" + c, joins ? 4 : 3);
                fault(use, "(" + c, starting ? 2 : 1);
            }
        }
    }

    /** Term 2: NUMBERS of 1 to 4 digits. */
    private static void numbers() {
        law("0", 5, 5, 5, 0);
        law("9", 5, 5, 5, 9);
        law("99", 5, 5, 5, 99);
        law("999", 5, 5, 5, 999);
        law("9999-9000", 5, 5, 5, 999);
        law("9999/10", 5, 5, 5, 999);
        law("1000-1", 5, 5, 5, 999);
        law("0000", 5, 5, 5, 0);
        law("0007", 5, 5, 5, 7);
        fault(0, "00000", 4);
        fault(0, "12345", 4);
        fault(0, "w+12345", 6);
        fault(0, "(12345)", 5);
        fault(0, "1234 ", 4);
        fault(0, "1234w", 4);
        fault(0, "1234+1234", -1);
    }

    /** Term 2: at most 5 of ! and ( open at once; of a sixth the place is the FAULT. */
    private static void depth() {
        for (int of = 0; of < 32; of++) {
            StringBuilder open = new StringBuilder();
            StringBuilder shut = new StringBuilder();
            for (int i = 0; i < 5; i++) {
                boolean round = (of >> i & 1) == 1;
                open.append(round ? '(' : '!');
                shut.append(round ? ")" : "");
            }
            fault(0, open + "w" + shut, -1);
            fault(0, open + "w", shut.length() > 0 ? 6 : -1);
            fault(0, open.toString(), 5);
            fault(0, open + "!w" + shut, 5);
            fault(0, open + "(w)" + shut, 5);
            fault(0, open + ")", 5);
        }
        fault(0, "((((((w))))))", 5);
        fault(0, "w+((((((w))))))", 7);
        fault(0, "(((((w+!w)))))", 7);
        fault(0, "((((w+!w))))", -1);
        fault(0, "((((w+!!w))))", 7);
        fault(0, "((((w*!(w)))))", 7);
        fault(0, "!(!(!w))", -1);
        fault(0, "!(!(!!w))", 5);
    }

    /** Term 2: what is shut isn't open any more. */
    private static void shutAgain() {
        law("!!!!!w+!!!!!w", 0, 0, 0, 2);
        law("(((((w)))))+(((((l)))))", 3, 4, 0, 7);
        law("!!!!!w*(((((l)))))", 0, 4, 0, 4);
        law("((((!w+!w+(w)+!l))))", 0, 0, 0, 3);
        law("(((((w)))))*((((!l))))", 3, 0, 0, 3);
        fault(0, "(((((w)))))+((((((w))))))", 17);
        fault(0, "!!!!!w|!!!!!!w", 12);
        fault(0, "((((!w&((w))))))", 8);
        fault(0, "(w))", 3);
        fault(0, "(w)(w)", 3);
        fault(0, "(w)w", 3);
        fault(0, "(w)!w", 3);
    }

    /** Term 2: B compares once; in ( ) and behind | and & it may again. */
    private static void comparedOnce() {
        for (String first : new String[] {"<", "=", ">"}) {
            for (String second : new String[] {"<", "=", ">"}) {
                fault(0, "w" + first + "l" + second + "h", 3);
                fault(0, "w+1" + first + "l*2" + second + "h", 7);
                fault(0, "(w" + first + "l)" + second + "h", -1);
                fault(0, "w" + first + "(l" + second + "h)", -1);
                fault(0, "w" + first + "l&l" + second + "h", -1);
                fault(0, "w" + first + "l|l" + second + "h", -1);
                fault(0, "w" + first + "(l)" + second + "h", 5);
                fault(0, "(w" + first + "l" + second + "h)", 4);
            }
        }
        fault(0, "w<=l", 2);
        fault(0, "w==l", 2);
        fault(0, "w<", 2);
    }

    /** Term 2: how many bytes there are, if it ends too early. */
    private static void endsTooEarly() {
        String text = "!(w+12)*(l%3<(h))&!!w|(9999)";
        fault(0, text, -1);
        for (int n = 0; n <= text.length(); n++) {
            boolean whole = n == 7 || n == 17 || n == 21 || n == 28;
            fault(0, text.substring(0, n), whole ? -1 : n);
        }
        for (String sign : new String[] {"|", "&", "<", "=", ">", "+", "-", "*", "/", "%"}) {
            fault(0, "w" + sign, 2);
            fault(0, "w" + sign + "l" + sign, "<=>".contains(sign) ? 3 : 4);
            fault(0, sign, 0);
            fault(0, "w" + sign + sign, 2);
        }
    }

    /** Term 2: ints that wrap. */
    private static void wraps() {
        law("w+1=l", HIGH, LOW, 0, 1);
        law("w-1=l", LOW, HIGH, 0, 1);
        law("w*2=l", 1 << 30, LOW, 0, 1);
        law("w*w=l", 46341, 46341 * 46341, 0, 1);
        law("w*w=l", 65536, 0, 0, 1);
        law("0-w=w", LOW, 0, 0, 1);
        law("w/l=w", LOW, -1, 0, 1);
        law("w%l=0", LOW, -1, 0, 1);
        law("w*l=w", LOW, -1, 0, 1);
        law("9999*9999*9999>0", 0, 0, 0, 0);
        law("9999*9999*9999=l", 0, 9999 * 9999 * 9999, 0, 1);
        law("w<l", LOW, HIGH, 0, 1);
        law("w>l", LOW, HIGH, 0, 0);
        law("w-l<0", LOW, HIGH, 0, 0);
    }

    /** Term 2: / cut, % the rest that it leaves, both by 0 are 0. */
    private static void quotients() {
        whole("w/l", 7, 2, 0, 3);
        whole("w%l", 7, 2, 0, 1);
        whole("w/l", -7, 2, 0, -3);
        whole("w%l", -7, 2, 0, -1);
        whole("w/l", 7, -2, 0, -3);
        whole("w%l", 7, -2, 0, 1);
        whole("w/l", -7, -2, 0, 3);
        whole("w%l", -7, -2, 0, -1);
        whole("w/l", 1, 2, 0, 0);
        whole("w%l", 1, 2, 0, 1);
        for (int w : new int[] {0, 1, -1, 7, LOW, HIGH}) {
            whole("w/l", w, 0, 0, 0);
            whole("w%l", w, 0, 0, 0);
            whole("w/0", w, 1, 0, 0);
            whole("w%0", w, 1, 0, 0);
            whole("w/(l-l)", w, 1, 0, 0);
        }
        whole("w/l/h", 100, 7, 2, 7);
        whole("w/l*h", 100, 7, 2, 28);
        whole("w%l*h", 100, 7, 2, 4);
        whole("w*l%h", 7, 5, 8, 3);
        whole("w/l%h", 100, 7, 4, 2);
    }

    /** Term 2: 1 or 0, what is not 0 being true; all is worked out. */
    private static void truths() {
        int[] some = {0, 1, -1, 2, LOW, HIGH};
        for (int w : some) {
            whole("!w", w, 0, 0, w == 0 ? 1 : 0);
            whole("!!w", w, 0, 0, w == 0 ? 0 : 1);
            for (int l : some) {
                whole("(w|l)", w, l, 0, w != 0 || l != 0 ? 1 : 0);
                whole("(w&l)", w, l, 0, w != 0 && l != 0 ? 1 : 0);
                whole("(w<l)", w, l, 0, w < l ? 1 : 0);
                whole("(w=l)", w, l, 0, w == l ? 1 : 0);
                whole("(w>l)", w, l, 0, w > l ? 1 : 0);
            }
        }
        law("0&w/0", 7, 0, 0, 0);
        law("1|w/0", 7, 0, 0, 1);
        law("w/0|l%0|1", 7, 7, 0, 1);
        law("!w/0", 7, 0, 0, 0);
    }

    /** Term 2: | weakest, then &, then < = >, then + -, then * / %, then !; from the left of each. */
    private static void orderOfSigns() {
        whole("(1|0&0)", 0, 0, 0, 1);
        whole("(0&0|1)", 0, 0, 0, 1);
        whole("(0&1<2)", 0, 0, 0, 0);
        whole("(1&2<1)", 0, 0, 0, 0);
        whole("(2<1|1)", 0, 0, 0, 1);
        whole("(1<1+1)", 0, 0, 0, 1);
        whole("(3=1+2)", 0, 0, 0, 1);
        whole("(1+2>2)", 0, 0, 0, 1);
        whole("2+3*4", 0, 0, 0, 14);
        whole("2*3+4", 0, 0, 0, 10);
        whole("9-8/2", 0, 0, 0, 5);
        whole("9-8%3", 0, 0, 0, 7);
        whole("9-3-2", 0, 0, 0, 4);
        whole("9-3+2", 0, 0, 0, 8);
        whole("9/2*2", 0, 0, 0, 8);
        whole("!0*3", 0, 0, 0, 3);
        whole("!0+3", 0, 0, 0, 4);
        whole("!(0+3)", 0, 0, 0, 0);
        whole("2*!0", 0, 0, 0, 2);
        whole("(!1=0)", 0, 0, 0, 1);
        whole("2*(3+4)", 0, 0, 0, 14);
        whole("9-(3-2)", 0, 0, 0, 8);
        whole("(1|0)&0|0", 0, 0, 0, 0);
    }

    /** Term 2: the NAMES of each USE, in order as a, b, c, and none of the other one. */
    private static void names() {
        law("w*100+l*10+h", 1, 2, 3, 123);
        PailSpeech x = new PailSpeech();
        Due.is("SPILL", Due.read(x, 1, "l*100+s*10+m-123"), 1);
        Due.is("SPILL", x.law(1, 900, 1, 4), 900);
        Due.is("SPILL: l", x.law(1, 1, 4, 0), 1 * 100 + 40 - 123 > 1 ? 1 : 0);
        Due.is("SPILL: s, m", x.law(1, 2, -8, 5), 2);
        Due.is("SPILL: s, m", x.law(1, 2, -8, 4), 1);
        Due.is("SPILL: s, m", x.law(1, 2, -8, 3), 0);
        for (String name : new String[] {"s", "m"}) {
            fault(0, name, 0);
            fault(0, "w+" + name, 2);
            fault(1, name, -1);
        }
        for (String name : new String[] {"w", "h"}) {
            fault(1, name, 0);
            fault(1, "l+" + name, 2);
            fault(0, name, -1);
        }
        fault(0, "l", -1);
        fault(1, "l", -1);
    }

    /** Term 2: EAR is held within 0 to 999; without a TEXT w. */
    private static void ear() {
        int[] given = {LOW, -1, 0, 1, 998, 999, 1000, HIGH};
        int[] held = {0, 0, 0, 1, 998, 999, 999, 999};
        for (int i = 0; i < given.length; i++) {
            law("w", given[i], 0, 0, held[i]);
            law("l", 0, given[i], 0, held[i]);
            law("h", 0, 0, given[i], held[i]);
            Due.is("without a TEXT", new PailSpeech().law(0, given[i], 5, 6), held[i]);
        }
        for (int w = 0; w <= 99; w++) {
            Due.is("without a TEXT", new PailSpeech().law(0, w, 31, 77), w);
        }
        PailSpeech x = Courts.alike(1, 0);
        Due.read(x, 0, "h+1000");
        x.word(0, 1, 99, -1);
        x.word(0, 1, 99, -1);
        x.say(0);
        x.seconds(1);
        Due.is("HEARD by what is held", x.ofParty(0, 4), 999);
        Due.read(x, 0, "0-w");
        x.say(1);
        x.seconds(1);
        Due.is("HEARD isn't less by an EAR below 0", x.ofParty(0, 4), 999);
    }

    /** Term 2: SPILL is held within 0 and the load; without a TEXT l*m/50. */
    private static void spill() {
        for (int l : new int[] {0, 1, 2, 500, 998, 999}) {
            int[] given = {LOW, -1, 0, 1, l - 1, l, l + 1, HIGH};
            for (int g : given) {
                PailSpeech x = new PailSpeech();
                Due.read(x, 1, "s");
                Due.is("SPILL " + g + " of " + l, x.law(1, l, g, 0), Math.max(0, Math.min(l, g)));
                Due.read(x, 1, "m");
                Due.is("SPILL " + g + " of " + l, x.law(1, l, 0, g), Math.max(0, Math.min(l, g)));
            }
        }
        int[][] plain = {{49, 1, 0}, {50, 1, 1}, {99, 1, 1}, {100, 1, 2}, {5, 9, 0}, {6, 9, 1}, {999, 9, 179},
            {999, 0, 0}, {0, 9, 0}, {1, 9, 0}};
        for (int[] p : plain) {
            Due.is("SPILL of " + p[0] + " by m " + p[1], new PailSpeech().law(1, p[0], 99, p[1]), p[2]);
            Due.is("s doesn't matter", new PailSpeech().law(1, p[0], LOW, p[1]), p[2]);
        }
    }

    /** Promise 20: USES 0 and 1; SPILL's a within 0 to 999, EAR's any number. */
    private static void lawRefused() {
        for (int use : new int[] {-1, 2, FAR[0], FAR[1]}) {
            Look.refused("law(" + use + ", ..)", Courts::rich, Due.BEYOND, x -> x.law(use, 1, 1, 1));
        }
        for (int a : new int[] {-1, 1000, FAR[0], FAR[1]}) {
            Look.refused("law(1, " + a + ", ..)", Courts::rich, Due.BEYOND, x -> x.law(1, a, 1, 1));
            Look.refused("law(1, " + a + ", ..)", Courts::empty, Due.BEYOND, x -> x.law(1, a, 1, 1));
            PailSpeech x = new PailSpeech();
            Due.is("EAR of " + a + " is no ERROR", x.law(0, a, a, a), a > 0 ? 999 : 0);
            Due.is("EAR of " + a + " is no ERROR", x.told(1), 0);
        }
        Look.quiet("EAR", Courts::rich, 50 + 7 + 100, x -> x.law(0, 50, 7, 900));
        Look.quiet("SPILL", Courts::rich, 999 * 9 / 40 + 99, x -> x.law(1, 999, 99, 9));
        Look.quiet("SPILL of no load", Courts::rich, 0, x -> x.law(1, 0, 99, 9));
        Look.quiet("SPILL: b and c may be any", Courts::rich, 0, x -> x.law(1, 999, LOW, 0));
        Look.quiet("SPILL: b and c may be any", Courts::rich, 999, x -> x.law(1, 999, HIGH - 999, 1));
    }
}
