import java.util.ArrayList;
import java.util.List;

/** Promises 28 to 40 at their edges: z, VOICES, THE TRACE, SHEETS, the IMAGE, what is told. */
public final class EdgesRestTest {
    private static final int[] FAR = {Integer.MIN_VALUE, Integer.MAX_VALUE};

    public static void main(String[] args) {
        seed();
        voiceWraps();
        voicesOfAll();
        voiceRefused();
        trace();
        sheet();
        sheetAnew();
        sheetRefused();
        put();
        lowestBits();
        putRefused();
        move();
        moveWithin();
        moveRefused();
        judge();
        judgeSeconds();
        judgeRefused();
        imageKeeps();
        imageStays();
        restoreRefused();
        tell();
        check();
        checkPlaces();
        count();
        told();
        Due.end();
    }

    /** Promise 28: any number; nothing but z changes. */
    private static void seed() {
        PailSpeech x = new PailSpeech();
        int was = 1;
        for (int v : new int[] {0, -1, 1, FAR[0], FAR[1], Due.BEYOND, Due.KIND, 1 << 24}) {
            Due.is("seed(" + v + ")", x.seed(v), was);
            Due.is("z is " + v, x.count(11), v);
            was = v;
        }
        for (int k = 1; k <= 5; k++) {
            Due.is("no ERROR", x.told(k), 0);
        }
        Look.same("z again", Courts::rich, () -> {
            PailSpeech y = Courts.rich();
            int z = y.seed(5);
            y.seed(z);
            return y;
        });
    }

    private static PailSpeech voices(int km) {
        PailSpeech x = new PailSpeech();
        x.party(0, 9);
        x.party(km, 9);
        return x;
    }

    /** Promise 29: any number x; ints that go round. */
    private static void voiceWraps() {
        for (int x : new int[] {FAR[0], FAR[1], 0, -1, 1 << 30, -(1 << 30)}) {
            Due.is("pours " + x, voices(7).voice(1, 0, x), x + 1);
            Due.is("speaks " + x, voices(7).voice(1, 1, x), (x + 1) * 2);
            Due.is("rests " + x, voices(7).voice(1, 2, x), x - 7);
            Due.is("tells " + x, voices(7).voice(1, 3, x), (x + 1) * 2 ^ x - 7);
            Due.is("ICED pours " + x, voices(27).voice(1, 0, x), (x + 1) * 3);
            Due.is("DUMB rests " + x, voices(37).voice(1, 2, x), -(x - 7));
            Due.is("HOLED speaks " + x, voices(47).voice(1, 1, x), (x + 2) * 2 - (1 - 7));
        }
    }

    /** Term 3: a voice of each KIND by each act, PARTY number 1, m 7, x 20: what it gives, and its BODIES. */
    private static void voicesOfAll() {
        int pours = 21;
        int rests = 13;
        int leaky = 42 + 6;
        int iced = 63;
        int holed = 44 + 6;
        int gestured = -13 ^ 1;
        voice(0, 0, pours, 10);
        voice(0, 1, 42, 11, 10);
        voice(0, 2, rests, 12);
        voice(0, 3, 42 ^ rests, 13, 11, 10, 12);
        voice(1, 0, pours, 10);
        voice(1, 1, leaky, 20, 11, 10, 12);
        voice(1, 2, rests, 12);
        voice(1, 3, leaky ^ rests, 13, 20, 11, 10, 12, 12);
        voice(2, 0, iced, 30, 10);
        voice(2, 1, 2 * iced, 11, 30, 10);
        voice(2, 2, rests, 12);
        voice(2, 3, 2 * iced ^ rests, 13, 11, 30, 10, 12);
        voice(3, 0, pours, 10);
        voice(3, 1, 42, 11, 10);
        voice(3, 2, -rests, 40, 12);
        voice(3, 3, 42 ^ -rests, 13, 11, 10, 40, 12);
        voice(4, 0, pours, 10);
        voice(4, 1, holed, 50, 20, 11, 10, 12);
        voice(4, 2, rests, 12);
        voice(4, 3, holed ^ rests, 13, 50, 20, 11, 10, 12, 12);
        voice(5, 0, iced, 30, 10);
        voice(5, 1, 2 * iced, 11, 30, 10);
        voice(5, 2, rests, 12);
        voice(5, 3, (2 * iced ^ rests) - 9, 60, 13, 11, 30, 10, 12, 30, 10);
        voice(6, 0, pours, 10);
        voice(6, 1, 42, 11, 10);
        voice(6, 2, gestured, 70, 40, 12);
        voice(6, 3, 42 - (42 ^ gestured), 71, 11, 10, 13, 11, 10, 70, 40, 12);
    }

    private static void voice(int kind, int act, int due, int... bodies) {
        PailSpeech x = voices(10 * kind + 7);
        String name = "voice of KIND " + kind + ", act " + act;
        Due.is(name, x.voice(1, act, 20), due);
        Due.is(name + ": BODIES", x.count(10), bodies.length);
        for (int i = 0; i < bodies.length; i++) {
            Due.is(name + ": BODY " + i, x.trace(i), bodies[i]);
        }
        Due.is(name + ": no more", x.trace(bodies.length), Due.NONE);
        Look.sameState(name + " changes THE TRACE alone", () -> voices(10 * kind + 7),
            Look.after(() -> voices(10 * kind + 7), y -> y.voice(1, act, 20)));
    }

    /** Promise 29: BEYOND; THE TRACE of the one ahead stays. */
    private static void voiceRefused() {
        for (int party : new int[] {-1, 3, FAR[0], FAR[1]}) {
            Look.refused("voice(" + party + ", 0, 1)", Courts::rich, Due.BEYOND, x -> x.voice(party, 0, 1));
        }
        for (int act : new int[] {-1, 4, FAR[0], FAR[1]}) {
            Look.refused("voice(0, " + act + ", 1)", Courts::rich, Due.BEYOND, x -> x.voice(0, act, 1));
        }
        PailSpeech x = voices(7);
        Due.is("n is the number of the PARTY", x.voice(0, 0, 5), 5);
        Due.is("n is the number of the PARTY", x.voice(1, 0, 5), 6);
        Due.is("m as told", x.voice(0, 2, 5), 5);
        x.become(0, 9);
        Due.is("m as told", x.voice(0, 2, 5), -4);
        Due.is("an answer like an ERROR's is none", x.voice(0, 0, Due.BEYOND), Due.BEYOND);
        Due.is("it isn't counted", x.told(1), 0);
    }

    /** Promise 30: i from 0, of the latest voice() alone. */
    private static void trace() {
        int[] due = {13, 50, 20, 11, 10, 12, 12};
        for (int i = 0; i < due.length; i++) {
            int at = i;
            Look.quiet("trace(" + i + ")", Courts::rich, due[i], x -> x.trace(at));
        }
        for (int i : new int[] {-1, 7, 40, FAR[0], FAR[1]}) {
            Look.refused("trace(" + i + ")", Courts::rich, Due.NONE, x -> x.trace(i));
        }
        Look.refused("no voice yet", Courts::empty, Due.NONE, x -> x.trace(0));
        PailSpeech x = Courts.rich();
        x.voice(0, 2, 1);
        Due.is("the latest", x.trace(0), 12);
        Due.is("the latest alone", x.trace(1), Due.NONE);
    }

    /** A PARTY (LEAKY) with a WORD of 30 seconds IN HAND, and a SHEET of the numbers 5, 6, .. */
    private static PailSpeech numbers(int bits, int n) {
        PailSpeech x = new PailSpeech();
        x.party(10, 999);
        x.fetch(0, 999);
        x.word(0, 30, 1, -1);
        x.say(0);
        x.sheet(0, bits, n);
        for (int i = 0; i < n; i++) {
            x.put(0, i, 5 + i % 10);
        }
        return x;
    }

    /** A number of 5 to 14 by the m that explains it: RUNS are 5 and m. (With SHEET 3.) */
    private static int number(PailSpeech x, int sheet, int bits, int i) {
        x.sheet(3, bits, 1);
        x.move(sheet, i, 3, 0, 1);
        int m = x.explained(0, 3);
        return m < 0 ? m : m + 5;
    }

    private static void row(String what, PailSpeech x, int sheet, int bits, int... due) {
        for (int i = 0; i < due.length; i++) {
            Due.is(what + ": number " + i, number(x, sheet, bits, i), due[i]);
        }
        Due.is(what + ": no more", x.put(sheet, due.length, 5), Due.BEYOND);
    }

    /** Promise 31: SHEETS 0 to 3; 8, 16, 32 bits; 0 to 40 numbers, all 0; 0 bits: missing. */
    private static void sheet() {
        for (int s = 0; s <= 3; s++) {
            for (int bits : new int[] {8, 16, 32}) {
                for (int n : new int[] {0, 1, 39, 40}) {
                    PailSpeech x = new PailSpeech();
                    String name = "sheet(" + s + ", " + bits + ", " + n + ")";
                    Due.is(name, x.sheet(s, bits, n), 1);
                    Due.is(name + ": the last", x.put(s, n - 1, 1), n == 0 ? Due.BEYOND : 1);
                    Due.is(name + ": no more", x.put(s, n, 1), Due.BEYOND);
                    for (int o = 0; o <= 3; o++) {
                        Due.is(name + ": the others are missing", x.move(o, 0, s, 0, 0), o == s ? 0 : Due.NONE);
                    }
                }
            }
            for (int n : new int[] {0, 7, 41, -1, FAR[0], FAR[1]}) {
                PailSpeech x = Courts.rich();
                Due.is("missing, n doesn't matter", x.sheet(s, 0, n), 1);
                Due.is("missing", x.put(s, 0, 1), Due.NONE);
                Due.is("missing", x.judge(s), Due.NONE);
                Due.is("no ERROR but these", x.told(2), Courts.rich().told(2) + 2);
                Due.is("no ERROR but these", x.told(1), Courts.rich().told(1));
            }
        }
        PailSpeech x = new PailSpeech();
        for (int s = 0; s <= 3; s++) {
            x.sheet(s, 32, 40);
        }
        for (int s = 0; s <= 3; s++) {
            Due.is("all four at once", x.put(s, 39, s), 1);
        }
    }

    /** Promise 31: a new one is all 0, be there one ahead of it. */
    private static void sheetAnew() {
        for (int bits : new int[] {8, 16, 32}) {
            PailSpeech x = numbers(bits, 40);
            x.sheet(0, bits, 40);
            x.thumb(1);
            Due.is("all 0 by " + bits, x.explained(0, 0), 0);
            for (int i = 0; i < 40; i++) {
                x.put(0, i, 9);
            }
            Due.is("not all 0", x.explained(0, 0), Due.NONE);
            x.sheet(0, bits, 3);
            x.sheet(0, bits, 40);
            Due.is("all 0, what was behind the end, too", x.explained(0, 0), 0);
            x.put(0, 39, 9);
            x.sheet(0, 0, 0);
            x.sheet(0, bits, 40);
            Due.is("all 0, when it was missing", x.explained(0, 0), 0);
        }
        Look.sameState("a SHEET changes nothing else", Courts::rich, Look.after(Courts::rich, x -> x.sheet(3, 8, 9)));
    }

    private static void sheetRefused() {
        for (int s : new int[] {-1, 4, FAR[0], FAR[1]}) {
            for (int bits : new int[] {0, 8, 9}) {
                Look.refused("sheet(" + s + ", " + bits + ", 3)", Courts::rich, Due.BEYOND, x -> x.sheet(s, bits, 3));
                Look.refused("sheet(" + s + ", " + bits + ", -1)", Courts::rich, Due.BEYOND, x -> x.sheet(s, bits, -1));
            }
        }
        for (int bits : new int[] {1, 4, 7, 9, 15, 17, 24, 31, 33, 64, -1, -8, FAR[0], FAR[1]}) {
            for (int n : new int[] {3, -1, 41}) {
                Look.refused("sheet(0, " + bits + ", " + n + ")", Courts::rich, Due.BEYOND, x -> x.sheet(0, bits, n));
            }
        }
        for (int bits : new int[] {8, 16, 32}) {
            for (int n : new int[] {-1, FAR[0]}) {
                Look.refused("sheet(0, " + bits + ", " + n + ")", Courts::rich, Due.STATE, x -> x.sheet(0, bits, n));
                Look.refused("sheet(3, " + bits + ", " + n + ")", Courts::rich, Due.STATE, x -> x.sheet(3, bits, n));
            }
            for (int n : new int[] {41, FAR[1]}) {
                Look.refused("sheet(0, " + bits + ", " + n + ")", Courts::rich, Due.BEYOND, x -> x.sheet(0, bits, n));
                Look.refused("sheet(3, " + bits + ", " + n + ")", Courts::rich, Due.BEYOND, x -> x.sheet(3, bits, n));
            }
            PailSpeech x = numbers(bits, 4);
            x.sheet(0, bits, -1);
            x.sheet(0, bits, 41);
            x.sheet(0, bits + 1, 2);
            row("the one ahead stays", x, 0, bits, 5, 6, 7, 8);
        }
    }

    /** Promise 32: number i becomes v, none other does. */
    private static void put() {
        for (int bits : new int[] {8, 16, 32}) {
            PailSpeech x = numbers(bits, 4);
            Due.is("the first", x.put(0, 0, 14), 1);
            row("the first", x, 0, bits, 14, 6, 7, 8);
            Due.is("the last", x.put(0, 3, 13), 1);
            row("the last", x, 0, bits, 14, 6, 7, 13);
            Due.is("once more", x.put(0, 3, 12), 1);
            row("once more", x, 0, bits, 14, 6, 7, 12);
            Look.sameState("put changes nothing else", Courts::rich, Look.after(Courts::rich, y -> y.put(0, 0, 2)));
        }
    }

    /** Term 4, promise 32: the lowest 8, 16, 32 bits. */
    private static void lowestBits() {
        int[] more = {256, 65536, 0};
        for (int b = 0; b < 3; b++) {
            int bits = 8 << b;
            for (int times : new int[] {1, -1, 2, 255, -256}) {
                PailSpeech x = numbers(bits, 2);
                x.put(0, 0, 9 + times * more[b]);
                row(bits + " bits", x, 0, bits, 9, 6);
            }
            for (int other : new int[] {128, 256, 32768, 65536, 1 << 30, FAR[0]}) {
                PailSpeech x = numbers(bits, 1);
                x.put(0, 0, 9 + other);
                boolean falls = more[b] != 0 && other % more[b] == 0;
                row(bits + " bits and " + other, x, 0, bits, falls ? 9 : Due.NONE);
            }
        }
        // FLOOR 127, 128 in 8 bits, and 32767, 32768 in 16, by a sign; both are whole in more bits.
        explainedBy(8, 127, 0);
        explainedBy(8, 128, Due.NONE);
        explainedBy(8, 255, Due.NONE);
        explainedBy(16, 255, 0);
        explainedBy(16, 32767, 0);
        explainedBy(16, 32768, Due.NONE);
        explainedBy(32, 32768, 0);
        explainedBy(32, 65536, 0);
    }

    /** Whether a SHEET of one number explains so much on the FLOOR. */
    private static void explainedBy(int bits, int floor, int due) {
        PailSpeech x = new PailSpeech();
        x.party(49, 999);
        int on = 0;
        while (on < floor) {
            x.fetch(0, Math.min(999, floor - on));
            on = x.seconds(300);
        }
        x.sheet(0, bits, 1);
        x.put(0, 0, floor);
        Due.is(floor + " in " + bits + " bits", x.explained(0, 0), due);
    }

    private static void putRefused() {
        for (int s : new int[] {-1, 4, FAR[0], FAR[1]}) {
            Look.refused("put(" + s + ", 0, 1)", Courts::rich, Due.BEYOND, x -> x.put(s, 0, 1));
            Look.refused("put(" + s + ", -1, 1)", Courts::rich, Due.BEYOND, x -> x.put(s, -1, 1));
        }
        for (int i : new int[] {-1, 0, 40, FAR[0], FAR[1]}) {
            Look.refused("put(3, " + i + ", 1), missing", Courts::rich, Due.NONE, x -> x.put(3, i, 1));
        }
        for (int i : new int[] {-1, 4, 40, FAR[0], FAR[1]}) {
            Look.refused("put(0, " + i + ", 1)", Courts::rich, Due.BEYOND, x -> x.put(0, i, 1));
            PailSpeech x = numbers(8, 4);
            x.put(0, i, 14);
            row("put(0, " + i + ", 14) is refused", x, 0, 8, 5, 6, 7, 8);
        }
        Look.refused("put to none", Look.after(Courts::rich, x -> x.sheet(3, 8, 0)), Due.BEYOND, x -> x.put(3, 0, 1));
    }

    /** Promise 33: from number i on to number j on, the others stay. */
    private static void move() {
        for (int bits : new int[] {8, 16, 32}) {
            PailSpeech x = numbers(bits, 5);
            x.sheet(1, bits, 4);
            for (int i = 0; i < 4; i++) {
                x.put(1, i, 14 - i);
            }
            Due.is("two", x.move(0, 3, 1, 1, 2), 2);
            row("two came", x, 1, bits, 14, 8, 9, 11);
            row("they stay where they were", x, 0, bits, 5, 6, 7, 8, 9);
            Due.is("none", x.move(0, 5, 1, 4, 0), 0);
            Due.is("none", x.move(0, 0, 1, 0, 0), 0);
            row("none came", x, 1, bits, 14, 8, 9, 11);
            Due.is("all", x.move(1, 0, 0, 1, 4), 4);
            row("all came", x, 0, bits, 5, 14, 8, 9, 11);
            Due.is("the last to the first", x.move(0, 4, 1, 0, 1), 1);
            row("the last to the first", x, 1, bits, 11, 8, 9, 11);
        }
        Look.sameState("move changes nothing else", Courts::rich, Look.after(Courts::rich, y -> y.move(0, 0, 0, 1, 2)));
        PailSpeech y = new PailSpeech();
        y.sheet(0, 8, 40);
        y.sheet(1, 8, 40);
        Due.is("40 numbers", y.move(0, 0, 1, 0, 40), 40);
        Due.is("40 numbers to the same", y.move(1, 0, 1, 0, 40), 40);
    }

    /** Promise 33: to the same SHEET, as they all were. */
    private static void moveWithin() {
        for (int bits : new int[] {8, 16, 32}) {
            for (int i = 0; i <= 7; i++) {
                for (int j = 0; j <= 7; j++) {
                    int n = 7 - Math.max(i, j);
                    PailSpeech x = numbers(bits, 7);
                    int[] due = {5, 6, 7, 8, 9, 10, 11};
                    System.arraycopy(new int[] {5, 6, 7, 8, 9, 10, 11}, i, due, j, n);
                    String name = "move(0, " + i + ", 0, " + j + ", " + n + ")";
                    Due.is(name, x.move(0, i, 0, j, n), n);
                    row(name, x, 0, bits, due);
                    Due.is(name + ", one more", numbers(bits, 7).move(0, i, 0, j, n + 1), Due.BEYOND);
                }
            }
        }
    }

    private static void moveRefused() {
        for (int s : new int[] {-1, 4, FAR[0], FAR[1]}) {
            Look.refused("move(" + s + ", 0, 0, 0, 1)", Courts::rich, Due.BEYOND, x -> x.move(s, 0, 0, 0, 1));
            Look.refused("move(0, 0, " + s + ", 0, 1)", Courts::rich, Due.BEYOND, x -> x.move(0, 0, s, 0, 1));
            Look.refused("move(3, 0, " + s + ", 0, 1)", Courts::rich, Due.BEYOND, x -> x.move(3, 0, s, 0, 1));
            Look.refused("move(" + s + ", 0, 3, 0, 1)", Courts::rich, Due.BEYOND, x -> x.move(s, 0, 3, 0, 1));
        }
        for (int n : new int[] {-1, 0, 1, 41}) {
            Look.refused("from a missing one", Courts::rich, Due.NONE, x -> x.move(3, 0, 0, 0, n));
            Look.refused("to a missing one", Courts::rich, Due.NONE, x -> x.move(0, 0, 3, 0, n));
            Look.refused("both are missing", Courts::rich, Due.NONE, x -> x.move(3, 0, 3, 0, n));
            for (int s = 0; s < 3; s++) {
                int from = s;
                int to = (s + 1) % 3;
                Look.refused("unlike bits", Courts::rich, Due.KIND, x -> x.move(from, 0, to, 0, n));
                Look.refused("unlike bits", Courts::rich, Due.KIND, x -> x.move(to, 9, from, -1, n));
            }
        }
        Look.Court court = Look.after(Courts::rich, x -> x.sheet(3, 8, 3));
        int[][] calls = {{0, 0, -1}, {-1, 0, 1}, {0, -1, 1}, {-1, 0, 0}, {0, -1, 0}, {4, 0, 1}, {3, 0, 2}, {0, 0, 4},
            {0, 3, 1}, {0, 2, 2}, {5, 0, 0}, {0, 4, 0}, {FAR[1], 0, 1}, {0, FAR[1], 1}, {0, 0, FAR[1]}, {1, 0, FAR[1]},
            {0, 1, FAR[1]}, {FAR[0], 0, 1}, {0, FAR[0], 1}, {0, 0, FAR[0]}, {FAR[1], FAR[1], FAR[1]},
            {FAR[0], 0, FAR[0]}, {1, 1, FAR[0]}};
        for (int[] c : calls) {
            String name = "move(0, " + c[0] + ", 3, " + c[1] + ", " + c[2] + ")";
            Look.refused(name, court, Due.BEYOND, x -> x.move(0, c[0], 3, c[1], c[2]));
            PailSpeech x = numbers(8, 4);
            x.sheet(1, 8, 3);
            x.put(1, 1, 14);
            Due.is(name, x.move(0, c[0], 1, c[1], c[2]), Due.BEYOND);
            Due.is(name, number(x, 1, 8, 1), 14);
            row(name, x, 0, 8, 5, 6, 7, 8);
        }
    }

    /** Promise 34: up to the first that say() would refuse or that is CUT. */
    private static void judge() {
        PailSpeech x = Courts.quiet();
        int[][] rows = {{7, 3, 5, 8}, {2, 7}, {0}, {1}, {4}, {6}, {5, 6}, {6, 5}, {7, 7, 3}, {7, -1, 3}, {9}, {7, 9, 3},
            {-1}, {}, {7, 3, 6, 5}};
        int[] due = {4, 2, 0, 0, 0, 0, 2, 0, 1, 1, 0, 1, 0, 0, 2};
        for (int i = 0; i < rows.length; i++) {
            Due.is("row " + i, judged(x, 8, rows[i]), due[i]);
            Due.is("row " + i, judged(x, 16, rows[i]), due[i]);
            Due.is("row " + i, judged(x, 32, rows[i]), due[i]);
        }
        for (int far : FAR) {
            Due.is("no WORD", judged(x, 32, 7, far), 1);
        }
        Due.is("nothing changed", x.ofWord(7, 4), 0);
        for (int k = 1; k <= 5; k++) {
            Due.is("no ERROR then", x.told(k), Courts.quiet().told(k));
        }
        x.say(5);
        Due.is("one is IN HAND now", judged(x, 8, 7, 3), 0);
        Due.is("one is IN HAND now, itself", judged(x, 8, 5), 0);
        Due.is("no number", judged(x, 8), 0);
        PailSpeech free = Courts.alike(1, 0);
        free.word(0, 1, 1, -1);
        free.word(0, 1, 1, -1);
        Due.is("no more than its numbers", judged(free, 8, 1), 1);
        Due.is("no more than its numbers", judged(free, 8), 0);
        PailSpeech twelve = Courts.alike(1, 0);
        int[] all = new int[12];
        int[] forty = new int[40];
        for (int w = 0; w < 12; w++) {
            twelve.word(0, 1, 1, w - 1);
            all[w] = w;
            forty[w] = w;
        }
        Due.is("12 WORDS", judged(twelve, 8, all), 12);
        Due.is("40 numbers", judged(twelve, 8, forty), 12);
    }

    private static int judged(PailSpeech x, int bits, int... words) {
        x.sheet(3, bits, words.length);
        for (int i = 0; i < words.length; i++) {
            x.put(3, i, words[i]);
        }
        return x.judge(3);
    }

    /** Promise 34: each as many SECONDS as it takes, as if THUMB were 0. */
    private static void judgeSeconds() {
        for (int water = 9; water <= 26; water++) {
            PailSpeech x = new PailSpeech();
            x.party(0, 99);
            x.party(19, 99);
            x.fetch(0, water);
            x.fetch(1, 23);
            x.word(0, 2, 1, -1);
            x.word(1, 1, 1, 0);
            x.word(0, 3, 1, 1);
            // PARTY 1 loses 8 in 2 seconds and runs 14; then 1 of it is left.
            int due = water < 10 ? 0 : water < 25 ? 2 : 3;
            Due.is("by WATER " + water, judged(x, 8, 0, 1, 2), due);
            x.thumb(1);
            Due.is("THUMB, by WATER " + water, judged(x, 8, 0, 1, 2), due);
            Due.is("THUMB stays", x.thumb(0), 1);
            x.pour(1, 0, 2);
            Due.is("one drop is lacking by " + water, judged(x, 8, 0, 1, 2), water + 2 < 10 ? 0 : 1);
            Due.is("nothing changed", x.count(2) + x.count(3), 0);
        }
        PailSpeech y = Courts.late();
        y.stop();
        y.word(0, 30, 1, -1);
        Due.is("beyond 99999", judged(y, 8, 1), 1);
    }

    private static void judgeRefused() {
        for (int s : new int[] {-1, 4, FAR[0], FAR[1]}) {
            Look.refused("judge(" + s + ")", Courts::quiet, Due.BEYOND, x -> x.judge(s));
        }
        Look.refused("missing", Courts::quiet, Due.NONE, x -> x.judge(3));
        Look.quiet("judge(0)", Courts::quiet, 4, x -> x.judge(0));
        Look.quiet("judge(1)", Courts::quiet, 2, x -> x.judge(1));
        Look.quiet("judge(2)", Courts::quiet, 5, x -> x.judge(2));
        Look.quiet("judge(0), one IN HAND", Courts::rich, 0, x -> x.judge(0));
        Look.Court stopped = Look.after(Courts::quiet, x -> x.thumb(1));
        Look.quiet("judge(0), THUMB", stopped, 4, x -> x.judge(0));
    }

    /** All that can be changed is. */
    private static void upset(PailSpeech x) {
        x.stop();
        x.become(0, 69);
        x.become(1, 49);
        x.party(33, 7);
        x.fetch(1, 999);
        x.pour(2, 0, 3);
        x.word(2, 30, 99, 3);
        x.set(7, 1, 30);
        x.set(8, 2, 99);
        x.say(3);
        x.seconds(1);
        x.object(2, 9);
        x.seconds(5);
        Due.read(x, 0, "77");
        x.text(0);
        Due.read(x, 0, "77");
        Due.read(x, 1, "88");
        x.feed('9', 1);
        x.check();
        x.tell(-1);
        x.seed(12345);
        x.loose(30);
        x.say(7);
        x.thumb(1);
    }

    /** Promises 35, 36: all but SHEETS, THE TRACE, told() and how often is as it was. */
    private static void imageKeeps() {
        for (Look.Court court : new Look.Court[] {Courts::empty, Courts::quiet, Courts::rich, Courts::full}) {
            Look.Court kept = Look.after(court, PailSpeech::image);
            Look.Court back = Look.after(kept, x -> {
                upset(x);
                return x.restore();
            });
            Look.sameState("restored", kept, back);
            Due.is("SECOND", kept.made().restore(), court.made().count(2));
            Look.same("an IMAGE changes nothing else", Look.after(court, PailSpeech::image),
                Look.after(court, x -> {
                    x.image();
                    return x.restore();
                }));
        }
        PailSpeech x = Courts.rich();
        x.image();
        x.voice(0, 0, 3);
        x.sheet(3, 32, 9);
        x.put(0, 0, 99);
        x.stop();
        x.stop();
        int none = x.told(2);
        x.restore();
        Due.is("THE TRACE stays", x.count(10), 1);
        Due.is("THE TRACE stays", x.trace(0), 10);
        Due.is("SHEETS stay", x.put(3, 8, 1), 1);
        x.stop();
        Due.is("SHEETS stay", x.judge(0), 0);
        Due.is("what told() tells stays", x.told(2), none);
        Due.is("how often stays", x.image(), 3);
        PailSpeech late = Courts.late();
        late.seconds(9);
        late.image();
        late.restore();
        Due.is("SECOND 99999", late.restore(), 99999);
    }

    /** Promise 35, 36: in place of the one ahead; it stays. */
    private static void imageStays() {
        PailSpeech x = new PailSpeech();
        Due.is("of nothing", x.image(), 1);
        x.party(0, 50);
        x.fetch(0, 40);
        for (int n = 2; n <= 9; n++) {
            x.seconds(1);
            Due.is("how often", x.image(), n);
        }
        x.seconds(30);
        for (int i = 0; i < 3; i++) {
            Due.is("the latest, again", x.restore(), 8);
            Due.is("SECOND", x.count(2), 8);
            x.seconds(i + 1);
            x.fetch(0, 1);
            Due.is("WATER", x.ofParty(0, 3), 41);
        }
        x.restore();
        Due.is("WATER", x.ofParty(0, 3), 40);
        Look.Court kept = Look.after(Courts::rich, PailSpeech::image);
        Look.same("it stays", Look.after(kept, PailSpeech::restore), Look.after(kept, y -> {
            y.restore();
            y.say(5);
            y.fetch(1, 9);
            return y.restore();
        }));
    }

    private static void restoreRefused() {
        Look.refused("no IMAGE", Courts::empty, Due.NONE, PailSpeech::restore);
        Look.refused("no IMAGE", () -> numbers(8, 4), Due.NONE, PailSpeech::restore);
        Look.refused("no IMAGE", Courts::late, Due.NONE, PailSpeech::restore);
        PailSpeech x = new PailSpeech();
        x.restore();
        Due.is("none was kept by that", x.image(), 1);
    }

    /** Promise 37: any number, 20 at most. */
    private static void tell() {
        PailSpeech x = new PailSpeech();
        for (int i = 1; i <= 20; i++) {
            Due.is("one more", x.tell(i % 2 == 0 ? FAR[0] : FAR[1]), i);
        }
        for (int v : new int[] {0, 5, FAR[0], FAR[1]}) {
            Look.refused("tell(" + v + ") to 20", Courts::full, Due.FULL, y -> y.tell(v));
        }
        Due.is("a twenty-first", x.tell(0), Due.FULL);
        Due.is("still 20", x.count(9), 20);
        x.check();
        Due.is("none waits then", x.tell(0), 1);
        Look.Court one = Look.after(Courts::rich, y -> y.tell(7));
        Due.is("nothing else changed", one.made().count(3), Courts.rich().count(3));
        Due.is("19 and one", nineteen().made().tell(0), 20);
    }

    private static Look.Court nineteen() {
        return () -> {
            PailSpeech x = new PailSpeech();
            for (int i = 0; i < 19; i++) {
                x.tell(0);
            }
            return x;
        };
    }

    /** Promise 38: FLOOR behind 1, 2, .. SECONDS AHEAD; none waits then, nothing else changes. */
    private static void check() {
        PailSpeech x = Courts.full();
        Due.is("all 20 are so", x.check(), 0);
        Due.is("none waits", x.count(9), 0);
        Due.is("none waits: all are so", x.check(), 0);
        Look.sameState("nothing else changes", Look.after(Courts::rich, PailSpeech::check),
            Look.after(Courts::rich, y -> {
                y.check();
                return y.check();
            }));
        PailSpeech y = Courts.rich();
        y.check();
        for (int what = 0; what <= 11; what++) {
            if (what != 9) {
                Due.is("count(" + what + ")", y.count(what), Courts.rich().count(what));
            }
        }
        for (int k = 1; k <= 5; k++) {
            Due.is("no ERROR", y.told(k), Courts.rich().told(k));
        }
        PailSpeech z = Courts.late();
        for (int i = 1; i <= 20; i++) {
            z.tell(9 * i);
        }
        Due.is("beyond 99999", z.check(), 0);
        z.thumb(1);
        z.tell(0);
        z.tell(0);
        Due.is("THUMB", z.check(), 0);
        z.tell(9);
        Due.is("THUMB", z.check(), 1);
    }

    /** Promise 38: 1 and the place of the first that isn't so. */
    private static void checkPlaces() {
        for (int n : new int[] {1, 2, 19, 20}) {
            for (int place = 0; place < n; place++) {
                for (int by : new int[] {1, -1, 1 << 30}) {
                    PailSpeech x = Courts.late();
                    for (int i = 0; i < n; i++) {
                        x.tell(9 * (i + 1) + (i == place || i == n - 1 && by < 0 ? by : 0));
                    }
                    Due.is(n + " numbers, unlike at " + place, x.check(), 1 + place);
                    Due.is("none waits", x.count(9), 0);
                }
            }
        }
    }

    /** Promise 39: what 0 to 11; nothing changes. */
    private static void count() {
        for (int what = 0; what <= 11; what++) {
            int w = what;
            Look.quiet("count(" + what + ")", Courts::rich, x -> x.count(w));
            Look.quiet("count(" + what + ") at first", Courts::empty, w == 5 ? -1 : w == 11 ? 1 : 0, x -> x.count(w));
        }
        int[] due = {4, 12, 7, -1, 0, 2, 7, -1, 50, 20, 7};
        PailSpeech x = Courts.full();
        for (int what = 0; what < due.length; what++) {
            if (due[what] != -1) {
                Due.is("count(" + what + ")", x.count(what), due[what]);
            }
        }
        int water = x.ofParty(0, 3) + x.ofParty(1, 3) + x.ofParty(2, 3) + x.ofParty(3, 3);
        Due.is("WATER of all", x.count(7), water);
        x.stop();
        Due.is("nothing IN HAND", x.count(5), -1);
        Due.is("TO GO: 0 with nothing", x.count(6), 0);
        for (int what : new int[] {-1, 12, FAR[0], FAR[1]}) {
            Look.refused("count(" + what + ")", Courts::rich, Due.BEYOND, y -> y.count(what));
        }
        x.seed(Due.BEYOND);
        Due.is("z like an ERROR", x.count(11), Due.BEYOND);
        Due.is("it isn't counted", x.told(1), Courts.full().told(1));
    }

    /** Promise 40: k 1 to 5; another k is counted, too. */
    private static void told() {
        for (int k = 1; k <= 5; k++) {
            int of = k;
            Look.quiet("told(" + k + ")", Courts::rich, x -> x.told(of));
            Look.quiet("told(" + k + ") at first", Courts::empty, 0, x -> x.told(of));
        }
        for (int k : new int[] {0, 6, -1, Due.BEYOND, FAR[0], FAR[1]}) {
            Look.refused("told(" + k + ")", Courts::rich, Due.BEYOND, x -> x.told(k));
            Look.refused("told(" + k + ")", Courts::empty, Due.BEYOND, x -> x.told(k));
        }
        List<Look.Call> refusals = new ArrayList<>();
        refusals.add(x -> x.party(70, 1));
        refusals.add(x -> x.stop());
        refusals.add(x -> x.sheet(0, 8, -1));
        refusals.add(x -> x.tell(0));
        refusals.add(x -> x.as(0, 1));
        PailSpeech x = new PailSpeech();
        x.party(0, 9);
        for (int i = 0; i < 20; i++) {
            x.tell(0);
        }
        for (int n = 1; n <= 20; n++) {
            for (int k = 1; k <= 5; k++) {
                Due.is("an ERROR " + k, refusals.get(k - 1).on(x), -1000000000 - k);
                for (int o = 1; o <= 5; o++) {
                    Due.is("told(" + o + ") behind " + n, x.told(o), o <= k ? n : n - 1);
                }
            }
        }
        Due.is("a long, too", x.share(1, 0), Due.BEYOND);
        Due.is("a long, too", x.odds(0, 1, 0, 0), Due.BEYOND);
        Due.is("they are counted", x.told(1), 22);
    }
}
