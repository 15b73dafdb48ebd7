/** Promises 9 to 17 at their edges: water, the hearing, LOOSE SECONDS, AHEAD. */
public final class EdgesHearingTest {
    private static final int[] FAR = {Integer.MIN_VALUE, Integer.MAX_VALUE};

    public static void main(String[] args) {
        fetch();
        fetchRefused();
        pour();
        pourRefused();
        object();
        objectRefused();
        thumb();
        say();
        sayRefused();
        stop();
        waterOfASpeech();
        longest();
        drips();
        cutSecond();
        inOneOrBySteps();
        stopped();
        secondsRefused();
        looseDraws();
        looseDrops();
        looseRefused();
        then();
        thenRefused();
        Due.end();
    }

    /** Two PARTIES with PAILS of these SIZES and so much WATER. */
    private static Look.Court two(int size, int water, int otherSize, int otherWater) {
        return () -> {
            PailSpeech x = new PailSpeech();
            x.party(0, size);
            x.party(0, otherSize);
            pourIn(x, 0, water);
            pourIn(x, 1, otherWater);
            return x;
        };
    }

    private static void pourIn(PailSpeech x, int party, int water) {
        if (water > 0) {
            x.fetch(party, water);
        }
    }

    /** Promise 9: n 1 to 999, SIZE at most, what is too much not on the FLOOR. */
    private static void fetch() {
        PailSpeech x = new PailSpeech();
        x.party(0, 999);
        x.party(0, 7);
        Due.is("the least n", x.fetch(0, 1), 1);
        Due.is("just SIZE", x.fetch(0, 998), 999);
        Due.is("one too much", x.fetch(0, 1), 999);
        Due.is("the greatest n", x.fetch(0, 999), 999);
        Due.is("one less than SIZE", x.fetch(1, 6), 6);
        Due.is("one too much", x.fetch(1, 2), 7);
        Due.is("WATER", x.ofParty(1, 3), 7);
        Due.is("not on the FLOOR", x.count(3), 0);
        Due.is("of all", x.count(7), 1006);
        PailSpeech y = two(999, 0, 1, 0).made();
        y.thumb(1);
        Due.is("from nothing to SIZE; THUMB stops no fetch", y.fetch(0, 999), 999);
        Due.is("SIZE 1", y.fetch(1, 1), 1);
    }

    private static void fetchRefused() {
        for (int party : new int[] {-1, 3, FAR[0], FAR[1]}) {
            Look.refused("fetch(" + party + ", 5)", Courts::rich, Due.BEYOND, x -> x.fetch(party, 5));
        }
        for (int n : new int[] {0, -1, 1000, FAR[0], FAR[1]}) {
            Look.refused("fetch(1, " + n + ")", Courts::rich, Due.BEYOND, x -> x.fetch(1, n));
        }
        Look.refused("a fifth PARTY", Courts::full, Due.BEYOND, x -> x.fetch(4, 5));
    }

    /** Promise 10: n 1 to 999, all that there is, as much as fits. */
    private static void pour() {
        PailSpeech x = two(999, 999, 999, 0).made();
        Due.is("the greatest n, all that there is, just SIZE", x.pour(0, 1, 999), 999);
        Due.is("nothing is left", x.ofParty(0, 3), 0);
        Due.is("the least n", x.pour(1, 0, 1), 1);
        Due.is("one less", x.ofParty(1, 3), 998);
        PailSpeech y = two(50, 20, 30, 11).made();
        Due.is("just as much as fits", y.pour(0, 1, 19), 30);
        Due.is("one is left", y.ofParty(0, 3), 1);
        Due.is("the last one", two(50, 1, 30, 29).made().pour(0, 1, 1), 30);
        Due.is("not on the FLOOR", y.count(3), 0);
        Due.is("of all as much as ahead", y.count(7), 31);
    }

    private static void pourRefused() {
        Look.Court court = two(999, 500, 999, 500);
        for (int party : new int[] {-1, 2, FAR[0], FAR[1]}) {
            Look.refused("pour(" + party + ", 1, 5)", court, Due.BEYOND, x -> x.pour(party, 1, 5));
            Look.refused("pour(0, " + party + ", 5)", court, Due.BEYOND, x -> x.pour(0, party, 5));
        }
        for (int n : new int[] {0, -1, 1000, FAR[0], FAR[1]}) {
            Look.refused("pour(0, 1, " + n + ")", court, Due.BEYOND, x -> x.pour(0, 1, n));
        }
        Look.refused("to oneself", court, Due.BEYOND, x -> x.pour(1, 1, 5));
        Look.refused("to oneself, more than there is", court, Due.BEYOND, x -> x.pour(1, 1, 501));
        Look.refused("one more than there is", two(99, 20, 99, 0), Due.STATE, x -> x.pour(0, 1, 21));
        Look.refused("there is nothing", two(99, 0, 99, 0), Due.STATE, x -> x.pour(0, 1, 1));
        Look.refused("one more than fits", two(99, 20, 30, 11), Due.FULL, x -> x.pour(0, 1, 20));
        Look.refused("nothing fits", two(99, 20, 30, 30), Due.FULL, x -> x.pour(0, 1, 1));
        Look.refused("less ahead of what doesn't fit", two(99, 20, 10, 0), Due.STATE, x -> x.pour(0, 1, 21));
        Look.refused("of n 999 there is less", two(999, 998, 999, 0), Due.STATE, x -> x.pour(0, 1, 999));
        Look.refused("in a hearing", Courts::rich, Due.STATE, x -> x.pour(0, 1, 999));
    }

    /** As two(), with a WORD of the other PARTY IN HAND. */
    private static Look.Court heard(int water, int otherWater) {
        return Look.after(two(999, water, 999, otherWater), x -> {
            x.word(1, 9, 5, -1);
            return x.say(0);
        });
    }

    private static void objection(int water, int otherWater, int n, int left) {
        String name = "object " + n + " of " + water + " to " + otherWater;
        PailSpeech x = heard(water, otherWater).made();
        Due.is(name, x.object(0, n), left);
        Due.is(name + ": one's own", x.ofParty(0, 3), water - n);
        Due.is(name + ": the other one's", x.ofParty(1, 3), left);
        Due.is(name + ": FLOOR", x.count(3), n + otherWater - left);
        Due.is(name + ": no SECOND", x.count(2), 0);
        Due.is(name + ": still IN HAND", x.count(5), 0);
        Due.is(name + ": TO GO", x.count(6), 9);
    }

    /** Promise 11: n 1 to 99, twice as many of the other one, as much as there is. */
    private static void object() {
        objection(50, 50, 1, 48);
        objection(99, 500, 99, 302);
        objection(100, 198, 99, 0);
        objection(100, 199, 99, 1);
        objection(100, 197, 99, 0);
        objection(1, 2, 1, 0);
        objection(1, 1, 1, 0);
        objection(1, 0, 1, 0);
        objection(30, 40, 30, 0);
    }

    private static void objectRefused() {
        for (int party : new int[] {-1, 3, FAR[0], FAR[1]}) {
            Look.refused("object(" + party + ", 5)", Courts::rich, Due.BEYOND, x -> x.object(party, 5));
            Look.refused("object(" + party + ", 5) to nothing", Courts::quiet, Due.BEYOND, x -> x.object(party, 5));
        }
        for (int n : new int[] {0, -1, 100, FAR[0], FAR[1]}) {
            Look.refused("object(1, " + n + ")", Courts::rich, Due.BEYOND, x -> x.object(1, n));
            Look.refused("object(0, " + n + ") to one's own", Courts::rich, Due.BEYOND, x -> x.object(0, n));
        }
        Look.refused("nothing IN HAND", Courts::quiet, Due.STATE, x -> x.object(1, 5));
        Look.refused("one's own", Courts::rich, Due.STATE, x -> x.object(0, 5));
        Look.refused("one less than n", heard(29, 50), Due.STATE, x -> x.object(0, 30));
        Look.refused("one's PAIL is empty", heard(0, 50), Due.STATE, x -> x.object(0, 1));
    }

    /** Promise 12: 0 and 1. */
    private static void thumb() {
        Look.quiet("0 as it was", Courts::rich, 0, x -> x.thumb(0));
        PailSpeech x = Courts.rich();
        Due.is("it was 0", x.thumb(1), 0);
        Due.is("it is 1", x.count(4), 1);
        Due.is("it was 1", x.thumb(0), 1);
        Due.is("it is 0", x.count(4), 0);
        for (int v : new int[] {-1, 2, FAR[0], FAR[1]}) {
            Look.refused("thumb(" + v + ")", Courts::rich, Due.BEYOND, y -> y.thumb(v));
            Look.refused("thumb(" + v + ") of 1", Look.after(Courts::rich, y -> y.thumb(1)), Due.BEYOND,
                y -> y.thumb(v));
        }
    }

    /** Promise 13: an UNSAID WORD whose BEHIND is none or SAID. */
    private static void say() {
        int[] words = {2, 3, 5, 7, 8};
        int[] takes = {9, 2, 1, 1, 2};
        for (int i = 0; i < words.length; i++) {
            PailSpeech x = Courts.quiet();
            Due.is("say(" + words[i] + ")", x.say(words[i]), takes[i]);
            Due.is("IN HAND", x.count(5), words[i]);
            Due.is("TO GO", x.count(6), takes[i]);
            Due.is("UNSAID as yet", x.ofWord(words[i], 4), 0);
            Due.is("no SECOND", x.count(2), Courts.quiet().count(2));
        }
        PailSpeech x = Courts.quiet();
        x.set(7, 1, 30);
        Due.is("the greatest LONG", x.say(7), 30);
        PailSpeech y = new PailSpeech();
        y.party(0, 9);
        y.word(0, 3, 3, -1);
        Due.is("without WATER", y.say(0), 3);
        y.seconds(1);
        Due.is("without WATER it is CUT", y.ofWord(0, 4), 2);
        PailSpeech z = Courts.quiet();
        z.thumb(1);
        Due.is("with THUMB", z.say(2), 9);
    }

    private static void sayRefused() {
        for (int word : new int[] {-1, 9, FAR[0], FAR[1]}) {
            Look.refused("say(" + word + ")", Courts::quiet, Due.BEYOND, x -> x.say(word));
            Look.refused("say(" + word + "), one IN HAND", Courts::rich, Due.BEYOND, x -> x.say(word));
        }
        for (int word = 0; word < 9; word++) {
            int w = word;
            Look.refused("say(" + w + "), one is IN HAND", Courts::rich, Due.STATE, x -> x.say(w));
        }
        Look.refused("it is SAID", Courts::quiet, Due.STATE, x -> x.say(0));
        Look.refused("it is CUT", Courts::quiet, Due.STATE, x -> x.say(1));
        Look.refused("its BEHIND is CUT", Courts::quiet, Due.STATE, x -> x.say(4));
        Look.refused("its BEHIND is UNSAID", Courts::quiet, Due.STATE, x -> x.say(6));
    }

    /** Promise 14: what is IN HAND is CUT, and nothing else. */
    private static void stop() {
        PailSpeech x = Courts.rich();
        int water = x.ofParty(0, 3);
        int floor = x.count(3);
        Due.is("its number", x.stop(), 2);
        Due.is("CUT", x.ofWord(2, 4), 2);
        Due.is("nothing IN HAND", x.count(5), -1);
        Due.is("TO GO", x.count(6), 0);
        Due.is("not HEARD", x.ofParty(0, 4), 10);
        Due.is("WATER stays", x.ofParty(0, 3), water);
        Due.is("FLOOR stays", x.count(3), floor);
        Due.is("a WORD may be said", x.say(3), 2);
        Look.refused("stop of nothing", Courts::quiet, Due.NONE, PailSpeech::stop);
        Look.refused("stop of nothing, at first", Courts::empty, Due.NONE, PailSpeech::stop);
        PailSpeech y = new PailSpeech();
        y.party(0, 5);
        y.word(0, 1, 1, -1);
        y.say(0);
        Due.is("the least number", y.stop(), 0);
        Due.is("once alone", y.stop(), Due.NONE);
    }

    /** A WORD of LONG 3, RUNS 5, by so much WATER: how it is behind 1, 2, 3 SECONDS, and FLOOR. */
    private static void speech(int water, int... due) {
        PailSpeech x = two(99, water, 9, 0).made();
        x.word(0, 3, 9, -1);
        x.say(0);
        for (int i = 0; i < 3; i++) {
            Due.is("FLOOR of " + water + " behind " + (i + 1), x.seconds(1), due[2 * i]);
            Due.is("the WORD by " + water + " behind " + (i + 1), x.ofWord(0, 4), due[2 * i + 1]);
        }
        boolean said = due[5] == 1;
        Due.is("HEARD by " + water, x.ofParty(0, 4), said ? 9 : 0);
        Due.is("nothing IN HAND", x.count(5), -1);
        Due.is("TO GO", x.count(6), 0);
        Due.is("WATER that is left of " + water, x.ofParty(0, 3), said ? water - 15 : 0);
    }

    /** Term 1: less than RUNS is CUT, just RUNS isn't; what there was is on the FLOOR. */
    private static void waterOfASpeech() {
        speech(16, 5, 0, 10, 0, 15, 1);
        speech(15, 5, 0, 10, 0, 15, 1);
        speech(14, 5, 0, 10, 0, 14, 2);
        speech(11, 5, 0, 10, 0, 11, 2);
        speech(10, 5, 0, 10, 0, 10, 2);
        speech(9, 5, 0, 9, 2, 9, 2);
        speech(5, 5, 0, 5, 2, 5, 2);
        speech(4, 4, 2, 4, 2, 4, 2);
        speech(0, 0, 2, 0, 2, 0, 2);
    }

    /** Term 1: LONG 1 to 30. */
    private static void longest() {
        PailSpeech x = two(999, 155, 9, 0).made();
        x.word(0, 30, 9, -1);
        x.word(0, 1, 9, -1);
        x.say(0);
        Due.is("29 seconds", x.seconds(29), 145);
        Due.is("one TO GO", x.count(6), 1);
        Due.is("not HEARD yet", x.ofParty(0, 4), 0);
        Due.is("30 seconds", x.seconds(1), 150);
        Due.is("SAID", x.ofWord(0, 4), 1);
        Due.is("LONG 1", x.say(1), 1);
        Due.is("one second", x.seconds(1), 155);
        Due.is("SAID", x.ofWord(1, 4), 1);
        Due.is("HEARD", x.ofParty(0, 4), 18);
        Due.is("WATER", x.ofParty(0, 3), 0);
    }

    /** Term 1: DRIPS of who doesn't speak, as much as there is; RUNS alone of who does. */
    private static void drips() {
        PailSpeech x = new PailSpeech();
        x.party(19, 99);
        x.party(49, 99);
        x.party(60, 99);
        x.party(29, 99);
        int[] water = {9, 11, 1, 50};
        for (int p = 0; p < 4; p++) {
            x.fetch(p, water[p]);
        }
        Due.is("each drips", x.seconds(1), 4 + 5 + 1);
        Due.is("as much as there is", x.seconds(1), 10 + 4 + 5);
        Due.is("as much as there is", x.seconds(1), 19 + 1 + 1);
        Due.is("all is gone", x.seconds(300), 21);
        Due.is("ICED doesn't drip", x.ofParty(3, 3), 50);
        PailSpeech y = new PailSpeech();
        y.party(19, 99);
        y.fetch(0, 99);
        y.word(0, 2, 1, -1);
        y.say(0);
        Due.is("RUNS without DRIPS", y.seconds(1), 14);
        Due.is("SAID, then it drips", y.seconds(2), 14 + 14 + 4);
        PailSpeech z = new PailSpeech();
        z.party(0, 99);
        z.party(11, 99);
        z.fetch(0, 99);
        z.word(0, 2, 1, -1);
        z.word(1, 2, 1, -1);
        z.say(0);
        Due.is("the half of 1 is cut", z.seconds(1), 5);
    }

    /** Term 1: in the SECOND of a CUT all others drip, and then oneself, too. */
    private static void cutSecond() {
        PailSpeech x = new PailSpeech();
        x.party(19, 99);
        x.party(48, 99);
        x.fetch(0, 20);
        x.fetch(1, 99);
        x.word(0, 9, 1, -1);
        x.say(0);
        Due.is("one second", x.seconds(1), 14 + 5);
        Due.is("CUT: the 6 that there are", x.seconds(1), 19 + 6 + 5);
        Due.is("CUT", x.ofWord(0, 4), 2);
        x.fetch(0, 30);
        Due.is("DRIPS from then on", x.seconds(1), 30 + 4 + 5);
    }

    /** Promise 15: n SECONDS in one call are as many calls of one. */
    private static void inOneOrBySteps() {
        for (int n : new int[] {1, 2, 6, 7, 8, 30, 299, 300}) {
            Look.same(n + " SECONDS in one, one by one", Look.after(Courts::rich, x -> x.seconds(n)),
                Look.after(Courts::rich, x -> {
                    for (int i = 0; i < Math.min(n, 40); i++) {
                        x.seconds(1);
                    }
                    return n > 40 ? x.seconds(n - 40) : 0;
                }));
        }
        PailSpeech x = Courts.rich();
        int second = x.count(2);
        x.seconds(300);
        Due.is("the greatest n", x.count(2), second + 300);
        x.seconds(1);
        Due.is("the least n", x.count(2), second + 301);
    }

    /** Term 1: with THUMB a SECOND is nothing but a SECOND. */
    private static void stopped() {
        PailSpeech x = two(99, 0, 99, 50).made();
        x.become(1, 49);
        x.word(0, 1, 9, -1);
        x.say(0);
        x.thumb(1);
        Due.is("FLOOR", x.seconds(300), 0);
        Due.is("SECOND", x.count(2), 300);
        Due.is("IN HAND", x.count(5), 0);
        Due.is("TO GO", x.count(6), 1);
        Due.is("UNSAID", x.ofWord(0, 4), 0);
        Due.is("no DRIPS", x.ofParty(1, 3), 50);
        x.thumb(0);
        Due.is("then it is CUT", x.seconds(1), 5);
        Due.is("then it is CUT", x.ofWord(0, 4), 2);
    }

    private static void secondsRefused() {
        for (int n : new int[] {0, -1, 301, FAR[0], FAR[1]}) {
            Look.refused("seconds(" + n + ")", Courts::rich, Due.BEYOND, x -> x.seconds(n));
        }
        Look.refused("99990 and 10", Courts::late, Due.STATE, x -> x.seconds(10));
        Look.refused("99990 and 300", Courts::late, Due.STATE, x -> x.seconds(300));
        Look.refused("99990 and 301", Courts::late, Due.BEYOND, x -> x.seconds(301));
        Look.refused("99990 and 0", Courts::late, Due.BEYOND, x -> x.seconds(0));
        PailSpeech x = Courts.late();
        Due.is("99990 and 9", x.seconds(9), 81);
        Due.is("the greatest SECOND", x.count(2), 99999);
        Look.Court last = Look.after(Courts::late, y -> y.seconds(9));
        Look.refused("99999 and 1", last, Due.STATE, y -> y.seconds(1));
        Look.refused("99999 and 1, with THUMB", Look.after(last, y -> y.thumb(1)), Due.STATE, y -> y.seconds(1));
    }

    /** Term 3: z by each draw, two draws ahead of each SECOND, z >>> 8 without a sign. */
    private static void looseDraws() {
        int[] seeds = {0, 1, 77, -1, FAR[0], FAR[1], 1103515245, -12345};
        for (int seed : seeds) {
            for (int n : new int[] {1, 2, 17, 300}) {
                PailSpeech x = Courts.alike(4, 20);
                x.word(0, 30, 1, -1);
                x.seed(seed);
                x.say(0);
                long z = seed & 0xFFFFFFFFL;
                int[] water = {999, 999, 999, 999};
                for (int i = 0; i < n; i++) {
                    z = (z * 1103515245L + 12345L) & 0xFFFFFFFFL;
                    int party = (int) ((z >> 8) % 4);
                    z = (z * 1103515245L + 12345L) & 0xFFFFFFFFL;
                    water[party] = Math.max(0, water[party] - (int) ((z >> 8) % 6));
                    water[0] -= i < 30 ? 5 : 0;
                }
                String name = "loose(" + n + ") by " + seed;
                Due.is(name, x.loose(n), 5 * Math.min(n, 30));
                Due.is(name + ": z", x.count(11), (int) z);
                Due.is(name + ": SECOND", x.count(2), n);
                for (int p = 0; p < 4; p++) {
                    Due.is(name + ": WATER of " + p, x.ofParty(p, 3), water[p]);
                }
            }
        }
    }

    /** A seed whose next two draws are this PARTY and so many drops. */
    private static int seedOf(int party, int drops) {
        for (int seed = 0; ; seed++) {
            int z = seed * 1103515245 + 12345;
            int next = z * 1103515245 + 12345;
            if ((z >>> 8) % 4 == party && (next >>> 8) % 6 == drops) {
                return seed;
            }
        }
    }

    /** Term 3: as much as there is, not on the FLOOR, if there is such a PARTY, ahead of the SECOND. */
    private static void looseDrops() {
        for (int drops = 0; drops <= 5; drops++) {
            for (int water = 1; water <= 7; water++) {
                PailSpeech x = two(99, 50, 99, water).made();
                x.seed(seedOf(1, drops));
                Due.is("FLOOR by " + drops + " of " + water, x.loose(1), 0);
                Due.is("WATER by " + drops + " of " + water, x.ofParty(1, 3), Math.max(0, water - drops));
                Due.is("the other one's", x.ofParty(0, 3), 50);
            }
        }
        for (int party = 2; party <= 3; party++) {
            PailSpeech x = two(99, 50, 99, 50).made();
            int z = seedOf(party, 5);
            x.seed(z);
            x.loose(1);
            Due.is("no such PARTY", x.count(7), 100);
            Due.is("both draws are made", x.count(11), (z * 1103515245 + 12345) * 1103515245 + 12345);
        }
        for (int drops = 0; drops <= 1; drops++) {
            PailSpeech x = two(99, 5, 99, 5).made();
            x.word(0, 1, 9, -1);
            x.say(0);
            x.seed(seedOf(0, drops));
            Due.is("ahead of the SECOND: FLOOR", x.loose(1), 5 - drops);
            Due.is("ahead of the SECOND: the WORD", x.ofWord(0, 4), 1 + drops);
        }
        PailSpeech y = two(99, 50, 99, 50).made();
        y.become(0, 49);
        y.thumb(1);
        y.seed(seedOf(0, 3));
        Due.is("THUMB stops the SECOND", y.loose(1), 0);
        Due.is("THUMB stops no loss", y.ofParty(0, 3), 47);
    }

    /** Promise 16: n 1 to 300, SECOND up to 99999; no draw is made if it is refused. */
    private static void looseRefused() {
        for (int n : new int[] {0, -1, 301, FAR[0], FAR[1]}) {
            Look.refused("loose(" + n + ")", Courts::rich, Due.BEYOND, x -> x.loose(n));
        }
        Look.refused("loose: 99990 and 10", Courts::late, Due.STATE, x -> x.loose(10));
        Look.refused("loose: 99990 and 300", Courts::late, Due.STATE, x -> x.loose(300));
        Look.refused("loose: 99990 and 301", Courts::late, Due.BEYOND, x -> x.loose(301));
        Look.refused("loose: 99990 and 0", Courts::late, Due.BEYOND, x -> x.loose(0));
        PailSpeech x = Courts.late();
        Due.is("loose: 99990 and 9", x.loose(9) > Due.BEYOND ? 1 : 0, 1);
        Due.is("loose: the greatest SECOND", x.count(2), 99999);
        Look.refused("loose: 99999 and 1", Look.after(Courts::late, y -> y.loose(9)), Due.STATE, y -> y.loose(1));
    }

    /** Promise 17: n 0 to 300, beyond 99999, too; nothing changes. */
    private static void then() {
        PailSpeech x = Courts.rich();
        int[] now = {x.ofParty(0, 3), x.ofParty(0, 4), x.count(3), x.count(5)};
        for (int what = 0; what <= 3; what++) {
            int w = what;
            Look.quiet("AHEAD by 0, what " + what, Courts::rich, now[what], y -> y.then(0, 0, w));
        }
        for (int n : new int[] {1, 6, 7, 8, 299, 300}) {
            PailSpeech later = Courts.rich();
            int floor = later.seconds(n);
            int[] due = {later.ofParty(0, 3), later.ofParty(0, 4), floor, later.count(5)};
            for (int what = 0; what <= 3; what++) {
                int w = what;
                Look.quiet("AHEAD by " + n + ", what " + what, Courts::rich, due[what], y -> y.then(n, 0, w));
            }
        }
        Due.is("IN HAND by 6", Courts.rich().then(6, 0, 3), 2);
        Due.is("SAID by 7", Courts.rich().then(7, 0, 3), -1);
        // 800 drops by 9 a second, 20 seconds, then by 2.
        Look.quiet("99990: AHEAD by 9", Courts::late, 81, y -> y.then(9, 0, 2));
        Look.quiet("99990: AHEAD by 10", Courts::late, 90, y -> y.then(10, 0, 2));
        Look.quiet("99990: AHEAD by 300", Courts::late, 180 + 560, y -> y.then(300, 0, 2));
        Look.quiet("99990: WATER", Courts::late, 60, y -> y.then(300, 0, 0));
        Look.quiet("99990: HEARD", Courts::late, 5, y -> y.then(20, 0, 1));
        Look.Court stopped = Look.after(Courts::rich, y -> y.thumb(1));
        Look.quiet("with THUMB", stopped, now[2], y -> y.then(300, 0, 2));
        Look.quiet("with THUMB", stopped, 2, y -> y.then(300, 0, 3));
    }

    private static void thenRefused() {
        for (int n : new int[] {-1, 301, FAR[0], FAR[1]}) {
            Look.refused("then(" + n + ", 0, 0)", Courts::rich, Due.BEYOND, x -> x.then(n, 0, 0));
        }
        for (int party : new int[] {-1, 3, FAR[0], FAR[1]}) {
            for (int what = 0; what <= 3; what++) {
                int w = what;
                String name = "then(1, " + party + ", " + what + ")";
                Look.refused(name, Courts::rich, Due.BEYOND, x -> x.then(1, party, w));
            }
        }
        for (int what : new int[] {-1, 4, FAR[0], FAR[1]}) {
            Look.refused("then(1, 0, " + what + ")", Courts::rich, Due.BEYOND, x -> x.then(1, 0, what));
        }
    }
}
