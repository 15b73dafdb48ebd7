/** Promises 21 to 27: what would be best. */
public final class BestTest {
    public static void main(String[] args) {
        best();
        bestOfEqualOnes();
        bestByEar();
        bestOfFive();
        share();
        shareOfThree();
        leaves();
        game();
        gamePicks();
        gameAsIf();
        odds();
        oddsOfFive();
        carried();
        explained();
        Due.end();
    }

    private static void row(String what, PailSpeech x, int set, int brings, int... words) {
        Due.is(what + ": BRINGS", x.best(set, -2), brings);
        Due.is(what + ": how many", x.best(set, -1), words.length);
        for (int i = 0; i < 5; i++) {
            Due.is(what + ": word " + i, x.best(set, i), i < words.length ? words[i] : Due.NONE);
        }
    }

    private static void best() {
        PailSpeech x = new PailSpeech();
        x.party(0, 100);
        x.party(30, 100);
        x.fetch(0, 39);
        x.fetch(1, 10);
        Due.is("set", x.best(0, -2), Due.BEYOND);
        Due.is("set", x.best(4, -2), Due.BEYOND);
        Due.is("set", x.best(-1, -2), Due.BEYOND);
        Due.is("what", x.best(1, -3), Due.BEYOND);
        Due.is("what", x.best(1, 5), Due.BEYOND);
        row("no WORDS", x, 3, 0);
        x.word(0, 3, 10, -1);
        x.word(0, 4, 20, 0);
        x.word(1, 2, 15, -1);
        x.word(1, 8, 40, 1);
        // 39 drops by 5 are 7 seconds.
        row("the one", x, 1, 30, 0, 1);
        row("DUMB runs 1, its BEHIND is another's", x, 2, 15, 2);
        // 49 drops by 5 are 9 seconds: all of the one and 2.
        row("both", x, 3, 45, 0, 1, 2);
        x.say(0);
        row("what is IN HAND is as if it weren't", x, 1, 30, 0, 1);
        x.seconds(3);
        row("BEHIND is SAID", x, 1, 20, 1);
        x.say(1);
        x.seconds(4);
        row("BEHIND of another one is SAID", x, 2, 15, 2);
        x.fetch(1, 7);
        row("both of DUMB", x, 2, 55, 2, 3);
        row("nothing stays of the set ahead", x, 1, 0);
    }

    private static void bestOfEqualOnes() {
        PailSpeech x = new PailSpeech();
        x.party(0, 100);
        x.fetch(0, 20);
        x.word(0, 3, 0, -1);
        row("what brings 0 is longer than none", x, 1, 0);
        x.word(0, 3, 10, -1);
        x.word(0, 2, 10, -1);
        row("the fewest seconds", x, 1, 10, 2);
        x.set(2, 1, 3);
        row("the first row", x, 1, 10, 1);
        x.fetch(0, 80);
        row("the first of both", x, 1, 20, 1, 2);
    }

    private static void bestByEar() {
        PailSpeech x = new PailSpeech();
        x.party(0, 500);
        x.party(0, 100);
        x.fetch(0, 500);
        x.word(0, 2, 10, -1);
        x.word(0, 2, 30, -1);
        x.word(1, 2, 20, -1);
        Due.is("text", Due.read(x, 0, "w+h/2"), 1);
        // 30; 20 + 15; 10 + 32: 30 + 35 + 42.
        row("h is what came ahead", x, 3, 77 + 30, 1, 2, 0);
        x.say(1);
        x.seconds(2);
        // HEARD is 30: 20 + 15; 10 + 32; and not 30 for the other one alone.
        row("h is HEARD of the least", x, 3, 35 + 42, 2, 0);
        x.fetch(1, 50);
        row("of the other one none was HEARD", x, 2, 20, 2);
        PailSpeech y = new PailSpeech();
        y.party(0, 500);
        y.fetch(0, 500);
        y.word(0, 1, 1, -1);
        y.word(0, 1, 2, -1);
        Due.read(y, 0, "w*1000");
        row("EAR is held, what it BRINGS isn't", y, 1, 1998, 0, 1);
    }

    private static void bestOfFive() {
        PailSpeech x = new PailSpeech();
        x.party(0, 999);
        x.party(0, 999);
        x.fetch(0, 999);
        x.word(1, 1, 50, -1);
        for (int i = 1; i <= 6; i++) {
            x.word(0, 1, i == 6 ? 99 : i, -1);
        }
        row("the 5 with the least numbers", x, 1, 15, 1, 2, 3, 4, 5);
        row("the 5 of both", x, 3, 60, 0, 1, 2, 3, 4);
        x.say(1);
        x.stop();
        row("CUT isn't UNSAID", x, 1, 113, 2, 3, 4, 5, 6);
    }

    private static void share() {
        PailSpeech x = new PailSpeech();
        Due.is("no party", x.share(0, 0), Due.BEYOND);
        x.party(49, 50);
        x.party(0, 50);
        Due.is("part", x.share(0, 2), Due.BEYOND);
        Due.is("part", x.share(0, -1), Due.BEYOND);
        Due.is("party", x.share(2, 0), Due.BEYOND);
        Due.is("0", x.share(0, 0), 0);
        Due.is("by 1", x.share(0, 1), 1);
        x.fetch(1, 20);
        x.word(1, 2, 11, -1);
        // Alone the second brings 11; with the first, who runs 28 drops, nothing.
        Due.is("below 0", x.share(0, 0), -11);
        Due.is("the line", x.share(0, 1), 2);
        Due.is("above 0", x.share(1, 0), 11);
        Due.is("the line", x.share(1, 1), 2);
        x.set(0, 2, 10);
        Due.is("whole", x.share(0, 0), -5);
        Due.is("by 1", x.share(0, 1), 1);
    }

    private static void shareOfThree() {
        PailSpeech x = new PailSpeech();
        x.party(0, 50);
        x.party(0, 50);
        x.party(0, 50);
        x.fetch(0, 5);
        x.fetch(1, 5);
        x.word(0, 2, 12, -1);
        x.word(1, 2, 12, -1);
        x.word(2, 1, 1, -1);
        // BEST of {0}, {1}, {2}: 0; {0, 1}: 12; {0, 2}: 1; {1, 2}: 1; all: 12.
        Due.is("share of 0", x.share(0, 0), 35);
        Due.is("share of 0", x.share(0, 1), 6);
        Due.is("share of 1", x.share(1, 0), 35);
        Due.is("share of 2", x.share(2, 0), 1);
        Due.is("share of 2", x.share(2, 1), 3);
        // 12 is more than 70 sixths.
        Due.is("0 and 1 would leave", x.leaves(), 3);
    }

    private static void leaves() {
        PailSpeech x = new PailSpeech();
        Due.is("nobody", x.leaves(), Due.NONE);
        x.party(0, 50);
        Due.is("one alone", x.leaves(), Due.NONE);
        x.party(0, 50);
        x.fetch(0, 50);
        x.fetch(1, 50);
        x.word(0, 2, 12, -1);
        x.word(1, 3, 7, -1);
        Due.is("no more than their SHARES", x.leaves(), Due.NONE);
        x.become(0, 49);
        // Alone 12 and 7; together 100 drops by 28 are 3 seconds: 12.
        x.set(0, 1, 1);
        x.set(1, 1, 10);
        Due.is("the least of two that would", x.leaves(), 1);
        x.become(0, 0);
        x.become(1, 49);
        x.set(1, 1, 1);
        Due.is("nobody by the first's RUNS", x.leaves(), Due.NONE);
    }

    private static void game() {
        PailSpeech x = new PailSpeech();
        x.party(0, 500);
        x.party(0, 500);
        Due.is("one", x.game(2, 0, 1, 0), Due.BEYOND);
        Due.is("other", x.game(0, 2, 1, 0), Due.BEYOND);
        Due.is("one twice", x.game(1, 1, 1, 0), Due.BEYOND);
        Due.is("n", x.game(0, 1, 0, 0), Due.BEYOND);
        Due.is("n", x.game(0, 1, 5, 0), Due.BEYOND);
        Due.is("what", x.game(0, 1, 1, 2), Due.BEYOND);
        Due.is("what", x.game(0, 1, 1, -1), Due.BEYOND);
        Due.is("no WORDS", x.game(0, 1, 4, 0), 0);
        Due.is("no WORDS", x.game(0, 1, 4, 1), 12);
        x.fetch(0, 500);
        x.fetch(1, 500);
        x.word(0, 2, 10, -1);
        x.word(1, 2, 8, -1);
        Due.is("one pick", x.game(0, 1, 1, 0), 10);
        Due.is("first", x.game(0, 1, 1, 1), 0);
        Due.is("two picks", x.game(0, 1, 2, 0), 2);
        Due.is("the other one first", x.game(1, 0, 1, 0), 8);
        Due.is("the other one first", x.game(1, 0, 1, 1), 1);
        Due.is("the other one first", x.game(1, 0, 2, 0), -2);
        x.word(1, 2, 50, 0);
        Due.is("rather none at all", x.game(0, 1, 2, 1), 12);
        Due.is("rather none at all", x.game(0, 1, 2, 0), -8);
        Due.is("nothing changed", x.count(2), 0);
        Due.is("nothing changed", x.ofWord(0, 4), 0);
        Due.is("nothing changed", x.ofParty(0, 3), 500);
    }

    private static void gamePicks() {
        PailSpeech x = new PailSpeech();
        x.party(0, 999);
        x.party(0, 999);
        x.fetch(0, 999);
        x.word(0, 1, 0, -1);
        Due.is("as good as none: the WORD", x.game(0, 1, 1, 1), 0);
        x.word(0, 1, 1, -1);
        x.word(0, 1, 1, -1);
        Due.is("of equal ones the least", x.game(0, 1, 1, 1), 1);
        x.word(0, 1, 0, -1);
        x.word(0, 1, 50, -1);
        Due.is("the 4 with the least numbers", x.game(0, 1, 1, 0), 1);
        Due.is("of those that are UNSAID then", x.game(0, 1, 3, 0), 51);
        PailSpeech y = new PailSpeech();
        y.party(0, 20);
        y.party(0, 20);
        y.fetch(0, 20);
        y.word(0, 5, 90, -1);
        y.word(0, 2, 7, -1);
        y.word(0, 2, 6, -1);
        Due.is("what would be CUT brings nothing", y.game(0, 1, 1, 1), 1);
        Due.is("two of one's own", y.game(0, 1, 3, 0), 13);
        y.become(0, 12);
        // 7 drops a second: 20 are 2 seconds; then 6 are too few.
        Due.is("WATER is gone", y.game(0, 1, 3, 0), 7);
    }

    private static void gameAsIf() {
        PailSpeech x = new PailSpeech();
        x.party(0, 500);
        x.party(0, 500);
        x.fetch(0, 500);
        x.fetch(1, 500);
        x.word(0, 2, 10, -1);
        x.word(1, 3, 8, -1);
        x.say(0);
        x.thumb(1);
        Due.is("as if nothing IN HAND, THUMB 0", x.game(0, 1, 1, 0), 10);
        Due.is("as if nothing IN HAND, THUMB 0", x.game(0, 1, 1, 1), 0);
        Due.is("as if nothing IN HAND, THUMB 0", x.game(0, 1, 2, 0), 2);
        Due.is("nothing changed", x.count(5), 0);
        Due.is("nothing changed", x.count(4), 1);
        x.thumb(0);
        x.seconds(2);
        Due.is("growth alone counts", x.game(0, 1, 2, 0), -8);
        Due.read(x, 0, "w+h");
        Due.is("EAR of HEARD", x.game(1, 0, 1, 0), 8);
    }

    private static void odds(PailSpeech x, int one, int other, int u, long above, long below) {
        Due.is("odds above by " + u, x.odds(one, other, u, 0), above);
        Due.is("odds below by " + u, x.odds(one, other, u, 1), below);
    }

    private static void odds() {
        PailSpeech x = new PailSpeech();
        x.party(0, 999);
        x.party(0, 999);
        x.fetch(0, 999);
        x.fetch(1, 999);
        Due.is("twice", x.odds(0, 0, 1, 0), Due.BEYOND);
        Due.is("one", x.odds(2, 0, 1, 0), Due.BEYOND);
        Due.is("other", x.odds(0, 2, 1, 0), Due.BEYOND);
        Due.is("u", x.odds(0, 1, -1, 0), Due.BEYOND);
        Due.is("u", x.odds(0, 1, 17, 0), Due.BEYOND);
        Due.is("part", x.odds(0, 1, 1, 2), Due.BEYOND);
        odds(x, 0, 1, 8, 0, 1);
        int[] worth = {10, 5, 10};
        for (int w = 0; w < 3; w++) {
            x.word(w / 2, 1, worth[w], -1);
            x.say(w);
            x.seconds(1);
        }
        x.word(0, 1, 99, -1);
        odds(x, 0, 1, 8, 1, 2);
        odds(x, 0, 1, 4, 11, 32);
        odds(x, 0, 1, 0, 0, 1);
        odds(x, 0, 1, 16, 1, 1);
        // The other one: 10 against 0 or 5.
        odds(x, 1, 0, 8, 1, 4);
        odds(x, 1, 0, 16, 0, 1);
        odds(x, 1, 0, 1, 15, 256);
    }

    private static void oddsOfFive() {
        PailSpeech x = new PailSpeech();
        x.party(0, 999);
        x.party(0, 999);
        x.fetch(0, 999);
        x.fetch(1, 999);
        for (int w = 0; w < 11; w++) {
            x.word(w < 6 ? 0 : 1, 1, w == 5 ? 99 : w < 6 ? 0 : 1, -1);
            x.say(w);
            x.seconds(1);
        }
        odds(x, 0, 1, 8, 0, 1);
        odds(x, 1, 0, 8, 31, 32);
        odds(x, 1, 0, 1, 1048576 - 759375, 1048576);
    }

    private static void carried() {
        PailSpeech x = new PailSpeech();
        x.party(0, 40);
        x.party(19, 1);
        Due.is("party", x.carried(2, 1, 1, 0), Due.BEYOND);
        Due.is("seconds", x.carried(0, 0, 1, 0), Due.BEYOND);
        Due.is("seconds", x.carried(0, 10000, 1, 0), Due.BEYOND);
        Due.is("steps", x.carried(0, 1, 0, 0), Due.BEYOND);
        Due.is("steps", x.carried(0, 1, 100, 0), Due.BEYOND);
        Due.is("what", x.carried(0, 1, 1, 2), Due.BEYOND);
        Due.is("what", x.carried(0, 1, 1, -1), Due.BEYOND);
        // 20 ways of 19, 13 of 39, 10 of 40.
        Due.is("load", x.carried(0, 40, 1, 0), 39);
        Due.is("how much", x.carried(0, 40, 1, 1), 507);
        Due.is("no whole way: the least load", x.carried(0, 1, 1, 0), 1);
        Due.is("no whole way: nothing", x.carried(0, 1, 1, 1), 0);
        Due.is("two whole ways", x.carried(0, 7, 1, 1), 2 * 39);
        Due.is("one whole way", x.carried(0, 4, 1, 1), 40);
        Due.is("SIZE 1", x.carried(1, 9999, 1, 0), 1);
        Due.is("SIZE 1", x.carried(1, 9999, 1, 1), 4999);
        x.become(0, 9);
        // SPILL is l*9/50: 39 lose 7.
        Due.is("by m", x.carried(0, 40, 1, 1), 13 * (39 - 7));
        Due.read(x, 1, "l-5");
        Due.is("of several the least", x.carried(0, 40, 1, 0), 5);
        Due.is("of several the least", x.carried(0, 40, 1, 1), 100);
        Due.read(x, 1, "l");
        Due.is("all is spilled", x.carried(0, 40, 1, 0), 1);
        Due.is("all is spilled", x.carried(0, 40, 1, 1), 0);
        Due.read(x, 1, "s*m");
        Due.is("s and m", x.carried(0, 99, 2, 1), 16 * (39 - 18));
    }

    private static void explained() {
        PailSpeech x = new PailSpeech();
        x.party(18, 999);
        x.party(0, 999);
        x.fetch(0, 999);
        x.fetch(1, 999);
        Due.is("party", x.explained(2, 0), Due.BEYOND);
        Due.is("sheet", x.explained(0, 4), Due.BEYOND);
        Due.is("sheet", x.explained(0, -1), Due.BEYOND);
        Due.is("missing", x.explained(0, 0), Due.NONE);
        x.sheet(0, 8, 0);
        Due.is("nothing told", x.explained(0, 0), 0);
        x.sheet(0, 8, 3);
        Due.is("nothing drips", x.explained(0, 0), 0);
        for (int i = 0; i < 3; i++) {
            x.put(0, i, 256 + 2 * (i + 1));
        }
        Due.is("the least", x.explained(0, 0), 4);
        Due.is("by no m of another KIND", x.explained(1, 0), Due.NONE);
        x.put(0, 2, 7);
        Due.is("by no m", x.explained(0, 0), Due.NONE);
        x.put(0, 2, 6);
        x.word(0, 9, 1, -1);
        x.say(0);
        Due.is("it speaks now", x.explained(0, 0), Due.NONE);
        for (int i = 0; i < 3; i++) {
            x.put(0, i, 12 * (i + 1));
        }
        Due.is("RUNS", x.explained(0, 0), 7);
        Due.is("m stays", x.ofParty(0, 1), 8);
        for (int i = 0; i < 3; i++) {
            x.put(0, i, 14 * (i + 1));
        }
        Due.is("the highest m", x.explained(0, 0), 9);
        Due.is("nothing changed", x.count(3), 0);
        x.thumb(1);
        Due.is("THUMB", x.explained(0, 0), Due.NONE);
        x.thumb(0);
        x.stop();
        x.become(0, 45);
        x.sheet(1, 8, 1);
        x.sheet(2, 16, 1);
        x.seconds(67);
        Due.is("FLOOR", x.count(3), 201);
        x.put(1, 0, 203);
        x.put(2, 0, 203);
        Due.is("8 bits have a sign", x.explained(0, 1), Due.NONE);
        Due.is("16 bits", x.explained(0, 2), 2);
    }
}
