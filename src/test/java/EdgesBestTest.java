/** Promises 21 to 27 at their edges: BEST, SHARES, LEAVES, GAME, ODDS, CARRIED, EXPLAINED. */
public final class EdgesBestTest {
    private static final int[] FAR = {Integer.MIN_VALUE, Integer.MAX_VALUE};

    public static void main(String[] args) {
        water();
        runsOfTheLeast();
        waterOfAll();
        behind();
        unsaid();
        theFive();
        brings();
        ofSeveral();
        leftAside();
        bestRefused();
        shares();
        sharesInLowestTerms();
        leaves();
        shareRefused();
        gameByTurns();
        gameOfEqualOnes();
        gameOfFour();
        gameSeconds();
        gameBehind();
        gameAsIf();
        gameRefused();
        odds();
        oddsOfSaidOnes();
        oddsRefused();
        carriedWays();
        carriedLoads();
        carriedRefused();
        explained();
        explainedAhead();
        explainedRefused();
        Due.end();
    }

    private static void row(String what, PailSpeech x, int set, int brings, int... words) {
        Due.is(what + ": BRINGS", x.best(set, -2), brings);
        Due.is(what + ": how many", x.best(set, -1), words.length);
        for (int i = 0; i < 5; i++) {
            Due.is(what + ": WORD " + i, x.best(set, i), i < words.length ? words[i] : Due.NONE);
        }
    }

    /** PARTIES (KIND 0) with so much WATER each. */
    private static PailSpeech with(int... water) {
        PailSpeech x = new PailSpeech();
        for (int p = 0; p < water.length; p++) {
            x.party(0, 999);
            if (water[p] > 0) {
                x.fetch(p, water[p]);
            }
        }
        return x;
    }

    /** A WORD is SAID. */
    private static void said(PailSpeech x, int word) {
        x.say(word);
        x.seconds(x.count(6));
    }

    /** A WORD is CUT. */
    private static void cut(PailSpeech x, int word) {
        x.say(word);
        x.stop();
    }

    /** Term 3: LONG together times RUNS is WATER at most. */
    private static void water() {
        int[] drops = {0, 9, 10, 14, 15, 24, 25, 26, 39, 40};
        int[] brings = {0, 0, 7, 7, 8, 8, 15, 15, 15, 21};
        for (int i = 0; i < drops.length; i++) {
            PailSpeech x = with(drops[i]);
            x.word(0, 2, 7, -1);
            x.word(0, 3, 8, -1);
            x.word(0, 3, 6, -1);
            Due.is("BEST with " + drops[i], x.best(1, -2), brings[i]);
        }
        PailSpeech x = with(999);
        for (int w = 0; w < 5; w++) {
            x.word(0, 30, 1, -1);
        }
        x.seconds(1);
        row("150 seconds of 199", x, 1, 5, 0, 1, 2, 3, 4);
        x.become(0, 15);
        row("by 10 drops a second 99", x, 1, 3, 0, 1, 2);
        x.become(0, 49);
        row("by 28 drops a second 35", x, 1, 1, 0);
        x.become(0, 30);
        row("by 1 drop a second 999", x, 1, 5, 0, 1, 2, 3, 4);
    }

    /** Term 3: RUNS of the least PARTY of the set, be it that it has no WORD. */
    private static void runsOfTheLeast() {
        PailSpeech x = new PailSpeech();
        int[] kinds = {30, 0, 49, 29};
        for (int p = 0; p < 4; p++) {
            x.party(kinds[p], 99);
            x.fetch(p, 12);
            x.word(p, 2, 10 + p, -1);
        }
        row("RUNS 5", x, 2, 11, 1);
        row("RUNS 28", x, 4, 0);
        row("RUNS 1", x, 8, 13, 3);
        row("RUNS 5 of {1, 2}", x, 6, 23, 1, 2);
        row("RUNS 5 of {1, 3}", x, 10, 24, 1, 3);
        row("RUNS 28 of {2, 3}", x, 12, 0);
        row("RUNS 5 of {1, 2, 3}", x, 14, 36, 1, 2, 3);
        row("RUNS 1 of {0, 2}", x, 5, 22, 0, 2);
        row("RUNS 1 of all", x, 15, 46, 0, 1, 2, 3);
    }

    /** Term 3: WATER of all of it together. */
    private static void waterOfAll() {
        PailSpeech x = with(4, 3, 2, 1);
        x.word(0, 1, 9, -1);
        x.word(1, 2, 9, -1);
        row("4 drops", x, 1, 0);
        row("5 drops of {0, 3}", x, 9, 9, 0);
        row("9 drops of {0, 1, 2}", x, 7, 9, 0);
        row("10 drops of all", x, 15, 9, 0);
        x.fetch(2, 5);
        row("15 drops of all", x, 15, 18, 0, 1);
        row("14 drops of {0, 1, 2}", x, 7, 9, 0);
        row("those of no others", x, 3, 9, 0);
    }

    /** Term 3: BEHIND is none, SAID, or stands ahead in the row. */
    private static void behind() {
        PailSpeech x = with(999, 999);
        x.word(0, 1, 1, -1);
        x.word(1, 1, 2, 0);
        x.word(1, 1, 4, 1);
        x.word(0, 1, 8, -1);
        x.word(0, 1, 16, 3);
        row("ahead in the row", x, 1, 25, 0, 3, 4);
        row("UNSAID, of another one", x, 2, 0);
        row("ahead in the row, of another one", x, 3, 31, 0, 1, 2, 3, 4);
        said(x, 0);
        row("SAID", x, 2, 6, 1, 2);
        cut(x, 3);
        row("CUT", x, 1, 0);
        row("CUT", x, 3, 6, 1, 2);
        x.say(1);
        row("IN HAND isn't SAID, yet ahead in the row", x, 2, 6, 1, 2);
        x.stop();
        row("CUT", x, 2, 0);
        PailSpeech y = with(10);
        y.word(0, 1, 1, -1);
        y.word(0, 1, 9, 0);
        y.word(0, 1, 5, -1);
        row("both by 2 seconds", y, 1, 10, 0, 1);
        y.set(0, 1, 2);
        row("too long what it stands behind", y, 1, 5, 2);
    }

    /** Term 3: what is SAID or CUT comes in no row. */
    private static void unsaid() {
        PailSpeech x = with(999, 999);
        for (int w = 0; w < 4; w++) {
            x.word(w / 2, 1, 1 + w, -1);
        }
        row("all", x, 3, 10, 0, 1, 2, 3);
        said(x, 1);
        cut(x, 2);
        row("without SAID and CUT ones", x, 3, 5, 0, 3);
        row("of the first", x, 1, 1, 0);
        row("of the second", x, 2, 4, 3);
        said(x, 0);
        cut(x, 3);
        row("none is left", x, 3, 0);
    }

    /** Term 3: of the UNSAID WORDS of the set the 5 with the least numbers. */
    private static void theFive() {
        PailSpeech x = with(999, 999);
        for (int w = 0; w < 12; w++) {
            x.word(w % 2, 1, w < 10 ? 1 + w : 99, -1);
        }
        row("of the first", x, 1, 1 + 3 + 5 + 7 + 9, 0, 2, 4, 6, 8);
        row("of the second", x, 2, 2 + 4 + 6 + 8 + 10, 1, 3, 5, 7, 9);
        row("of both", x, 3, 15, 0, 1, 2, 3, 4);
        said(x, 0);
        cut(x, 1);
        row("of the first, one is SAID", x, 1, 24 + 99, 2, 4, 6, 8, 10);
        row("of both", x, 3, 3 + 4 + 5 + 6 + 7, 2, 3, 4, 5, 6);
        PailSpeech y = with(999, 999);
        y.word(1, 1, 1, -1);
        for (int w = 1; w < 6; w++) {
            y.word(0, 1, 1, w == 5 ? -1 : 0);
        }
        row("those that may not come count, too", y, 1, 1, 5);
        y.word(0, 1, 50, -1);
        row("those that may not come count, too", y, 1, 1, 5);
    }

    /** Term 3: EAR of each in order; HEARD of the least PARTY, and what came ahead. */
    private static void brings() {
        PailSpeech x = with(999, 999);
        x.word(0, 1, 40, -1);
        x.word(1, 1, 70, -1);
        said(x, 0);
        said(x, 1);
        Due.read(x, 0, "w+h");
        x.word(0, 2, 1, -1);
        x.word(1, 2, 5, -1);
        // 41; 5 and 40 + 41: 86.
        row("HEARD is 40", x, 1, 41, 2);
        row("HEARD is 70", x, 2, 75, 3);
        row("HEARD of the least, the greater first", x, 3, (5 + 40) + (1 + 40 + 45), 3, 2);
        Due.read(x, 0, "w*500");
        row("each is held, together they aren't", x, 3, 500 + 999, 2, 3);
        Due.read(x, 0, "h=40");
        row("what came ahead counts", x, 3, 1, 2);
        Due.read(x, 0, "l*10-w");
        row("l", x, 3, 19 + 15, 2, 3);
        Due.read(x, 0, "0-w");
        row("held to 0, it brings nothing", x, 3, 0);
        Due.read(x, 0, "900");
        for (int i = 4; i < 7; i++) {
            x.word(0, 1, 0, -1);
        }
        Due.is("4500, not held", x.best(3, -2), 4500);
        Due.read(x, 0, "900+(h>3000)");
        Due.is("h isn't held", x.best(3, -2), 4501);
    }

    /** Term 3: of several that of the fewest seconds, then the first row. */
    private static void ofSeveral() {
        PailSpeech x = with(15);
        x.word(0, 3, 9, -1);
        x.word(0, 2, 9, -1);
        x.word(0, 2, 9, -1);
        row("the fewest seconds, then the least number", x, 1, 9, 1);
        x.set(0, 1, 2);
        row("the least number", x, 1, 9, 0);
        x.set(2, 1, 1);
        row("two are more", x, 1, 18, 0, 2);
        x.set(0, 1, 3);
        row("of 3 seconds", x, 1, 18, 1, 2);
        PailSpeech y = with(999);
        y.word(0, 2, 5, -1);
        y.word(0, 3, 0, -1);
        y.word(0, 1, 5, -1);
        row("without what brings nothing", y, 1, 10, 0, 2);
        y.word(0, 1, 5, 1);
        row("with what brings nothing, for what stands behind it", y, 1, 15, 0, 1, 2, 3);
        PailSpeech z = with(999);
        z.word(0, 1, 0, -1);
        row("nothing to bring: no WORD at all", z, 1, 0);
        PailSpeech p = with(999);
        p.word(0, 1, 4, -1);
        p.word(0, 1, 4, -1);
        p.word(0, 1, 4, -1);
        row("the first of six rows", p, 1, 12, 0, 1, 2);
        Due.read(p, 0, "w*(h<5)");
        row("the first of six rows of two", p, 1, 8, 0, 1);
    }

    /** Term 3: what is IN HAND is left aside; THUMB doesn't matter. */
    private static void leftAside() {
        PailSpeech x = with(40);
        x.word(0, 4, 10, -1);
        x.word(0, 4, 20, 0);
        row("ahead", x, 1, 30, 0, 1);
        x.say(0);
        row("IN HAND", x, 1, 30, 0, 1);
        x.thumb(1);
        row("THUMB", x, 1, 30, 0, 1);
        x.thumb(0);
        x.seconds(1);
        row("7 seconds of WATER: LONG, not TO GO", x, 1, 10, 0);
    }

    private static void bestRefused() {
        for (int set : new int[] {0, 8, -1, 15, FAR[0], FAR[1]}) {
            Look.refused("best(" + set + ", -2)", Courts::rich, Due.BEYOND, x -> x.best(set, -2));
        }
        for (int what : new int[] {-3, 5, FAR[0], FAR[1]}) {
            Look.refused("best(1, " + what + ")", Courts::rich, Due.BEYOND, x -> x.best(1, what));
        }
        Look.refused("no PARTIES", Courts::empty, Due.BEYOND, x -> x.best(1, -2));
        Look.refused("no PARTIES", Courts::empty, Due.BEYOND, x -> x.best(0, -2));
        Look.refused("16 of 4", Courts::full, Due.BEYOND, x -> x.best(16, -2));
        for (int set = 1; set <= 7; set++) {
            int s = set;
            int many = Courts.rich().best(set, -1);
            Look.quiet("best(" + s + ", -2)", Courts::rich, x -> x.best(s, -2));
            for (int i = 0; i <= 4; i++) {
                int what = i;
                if (i < many) {
                    Look.quiet("best(" + s + ", " + i + ")", Courts::rich, x -> x.best(s, what));
                } else {
                    Look.refused("best(" + s + ", " + i + ")", Courts::rich, Due.NONE, x -> x.best(s, what));
                }
            }
        }
        Look.quiet("15 of 4", Courts::full, x -> x.best(15, -2));
        row("without WORDS", with(9, 9), 3, 0);
    }

    private static void share(String what, PailSpeech x, int party, long above, long below) {
        Due.is(what + ": above", x.share(party, 0), above);
        Due.is(what + ": below", x.share(party, 1), below);
    }

    /** WATER 5 with each of four; one WORD of the last, of so many seconds: all of them, or 3, are needed. */
    private static PailSpeech four(int seconds, int worth) {
        PailSpeech x = with(5, 5, 5, 5);
        x.word(3, seconds, worth, -1);
        return x;
    }

    /** Promise 22: over all orders. */
    private static void shares() {
        for (int p = 0; p < 4; p++) {
            share("all four are needed, " + p, four(4, 24), p, 6, 1);
            share("all four are needed, " + p, four(4, 5), p, 5, 4);
            share("two others are needed, " + p, four(3, 12), p, p == 3 ? 6 : 2, 1);
            share("two others are needed, " + p, four(3, 7), p, 7, p == 3 ? 2 : 6);
            share("one other is needed, " + p, four(2, 24), p, p == 3 ? 18 : 2, 1);
            share("one other is needed, " + p, four(2, 7), p, p == 3 ? 21 : 7, p == 3 ? 4 : 12);
            share("the last alone, " + p, four(1, 7), p, p == 3 ? 7 : 0, 1);
            share("too long, " + p, four(5, 7), p, 0, 1);
        }
        PailSpeech x = with(20, 20, 20);
        for (int p = 0; p < 3; p++) {
            x.word(p, 4, 10 * p, -1);
        }
        for (int p = 0; p < 3; p++) {
            share("each its own", x, p, 10 * p, 1);
        }
        PailSpeech one = with(20);
        one.word(0, 2, 7, -1);
        share("one alone", one, 0, 7, 1);
        one.party(0, 9);
        share("one with one that has nothing", one, 0, 7, 1);
        share("one that has nothing", one, 1, 0, 1);
    }

    /** Promise 22: in lowest terms, above 0, below 0, 0 by 1. */
    private static void sharesInLowestTerms() {
        for (int worth = 0; worth <= 99; worth++) {
            PailSpeech x = new PailSpeech();
            x.party(49, 50);
            x.party(0, 50);
            x.fetch(1, 20);
            x.word(1, 2, worth, -1);
            int below = worth % 2 == 0 ? 1 : 2;
            share("below 0 by " + worth, x, 0, -worth * below / 2, below);
            share("above 0 by " + worth, x, 1, worth * below / 2, below);
            int parts = worth % 12 == 0 ? 1 : worth % 6 == 0 ? 2 : worth % 4 == 0 ? 3 : worth % 3 == 0 ? 4
                : worth % 2 == 0 ? 6 : 12;
            share("twelfths of " + worth, four(2, worth), 0, worth * parts / 12, parts);
        }
    }

    /** Promise 23: the least set whose BEST is more than its SHARES. */
    private static void leaves() {
        Due.is("two others are needed", four(3, 7).leaves(), 11);
        Due.is("one other is needed", four(2, 7).leaves(), 9);
        Due.is("all are needed", four(4, 7).leaves(), Due.NONE);
        Due.is("just as much isn't more", four(1, 7).leaves(), Due.NONE);
        Due.is("nothing isn't more than nothing", four(2, 0).leaves(), Due.NONE);
        PailSpeech x = with(0, 20, 0, 20);
        x.become(0, 49);
        x.word(3, 2, 9, -1);
        // The first spoils what the last would bring: nothing is more than its SHARE.
        Due.is("a SHARE below 0", x.leaves(), 1);
        PailSpeech y = with(20);
        y.word(0, 2, 9, -1);
        Due.is("one alone", y.leaves(), Due.NONE);
        // BEST 7, 1, together 7: SHARES 6 and a half, a half.
        PailSpeech z = with(28, 5);
        z.become(0, 49);
        z.word(0, 1, 7, -1);
        z.word(1, 1, 1, -1);
        Due.is("more by a half", z.leaves(), 1);
        Look.refused("nobody would", Courts::empty, Due.NONE, PailSpeech::leaves);
        Look.refused("nobody would", () -> four(4, 7), Due.NONE, PailSpeech::leaves);
        Look.quiet("leaves()", () -> four(2, 7), 9, PailSpeech::leaves);
        Look.quiet("leaves()", () -> four(3, 7), 11, PailSpeech::leaves);
    }

    private static void shareRefused() {
        for (int party : new int[] {-1, 3, FAR[0], FAR[1]}) {
            Look.refused("share(" + party + ", 0)", Courts::rich, Due.BEYOND, x -> x.share(party, 0));
        }
        for (int part : new int[] {-1, 2, FAR[0], FAR[1]}) {
            Look.refused("share(0, " + part + ")", Courts::rich, Due.BEYOND, x -> x.share(0, part));
        }
        Look.refused("no PARTIES", Courts::empty, Due.BEYOND, x -> x.share(0, 0));
        for (int p = 0; p < 4; p++) {
            int party = p;
            Look.quiet("share above", Courts::full, x -> x.share(party, 0));
            Look.quiet("share below", Courts::full, x -> x.share(party, 1));
        }
        Look.refused("a fifth PARTY", Courts::full, Due.BEYOND, x -> x.share(4, 1));
    }

    private static void game(String what, PailSpeech x, int one, int other, int n, int value, int first) {
        Due.is(what + ": VALUE by " + n, x.game(one, other, n, 0), value);
        Due.is(what + ": FIRST by " + n, x.game(one, other, n, 1), first);
    }

    /** Term 3: by turns, the one first, n picks in all. */
    private static void gameByTurns() {
        PailSpeech x = with(999, 999, 999);
        int[] worth = {10, 1, 20, 2, 4, 99};
        int[] whose = {0, 1, 0, 1, 1, 2};
        for (int w = 0; w < 6; w++) {
            x.word(whose[w], 1, worth[w], -1);
        }
        game("0 and 1", x, 0, 1, 1, 20, 2);
        game("0 and 1", x, 0, 1, 2, 20 - 4, 2);
        game("0 and 1", x, 0, 1, 3, 30 - 4, 0);
        game("0 and 1", x, 0, 1, 4, 30 - 6, 0);
        game("1 and 0", x, 1, 0, 1, 4, 4);
        game("1 and 0", x, 1, 0, 2, 4 - 20, 4);
        game("1 and 0", x, 1, 0, 3, 6 - 20, 3);
        game("1 and 0", x, 1, 0, 4, 6 - 30, 3);
        game("2 and 0", x, 2, 0, 4, 99 - 30, 5);
        game("0 and 2", x, 0, 2, 2, 20 - 99, 2);
    }

    /** Term 3: the least WORD by which it is so; 12 only if no WORD is as good. */
    private static void gameOfEqualOnes() {
        PailSpeech x = with(999, 0);
        game("no WORD", x, 0, 1, 1, 0, 12);
        game("no WORD", x, 1, 0, 4, 0, 12);
        x.word(0, 1, 0, -1);
        game("as good as none at all", x, 0, 1, 1, 0, 0);
        x.word(1, 1, 9, -1);
        game("it would be CUT: as good as none at all", x, 1, 0, 1, 0, 1);
        x.word(0, 1, 7, -1);
        x.word(0, 5, 7, -1);
        game("of equal ones the least", x, 0, 1, 1, 7, 2);
        x.word(1, 1, 9, 3);
        x.fetch(1, 5);
        game("not what opens the other one's", x, 0, 1, 2, 7 - 9, 2);
        PailSpeech y = with(999, 999);
        y.word(0, 1, 7, -1);
        y.word(1, 1, 50, 0);
        game("rather none at all", y, 0, 1, 2, 0, 12);
        game("its last pick is free", y, 0, 1, 3, 7, 12);
        game("one pick", y, 0, 1, 1, 7, 0);
        y.set(0, 2, 50);
        game("as good as none at all: the WORD", y, 0, 1, 2, 0, 0);
        y.set(0, 2, 51);
        game("better than none at all", y, 0, 1, 2, 1, 0);
    }

    /** Term 3: of the UNSAID WORDS the 4 with the least numbers, at each pick; they count ahead of BEHIND. */
    private static void gameOfFour() {
        PailSpeech x = with(999, 999);
        for (int w = 0; w < 6; w++) {
            x.word(0, 1, w < 4 ? 1 : 10 * w, -1);
        }
        game("the fifth is out of reach", x, 0, 1, 1, 1, 0);
        game("once one is SAID the fifth is there", x, 0, 1, 3, 1 + 40, 0);
        cut(x, 1);
        game("CUT isn't UNSAID", x, 0, 1, 1, 40, 4);
        PailSpeech y = with(999, 999);
        y.word(1, 1, 5, -1);
        for (int w = 1; w < 6; w++) {
            y.word(0, 1, w == 5 ? 50 : 5, w == 5 ? -1 : 0);
        }
        game("four that may not come", y, 0, 1, 1, 0, 12);
        said(y, 0);
        game("four that may", y, 0, 1, 1, 5, 1);
        PailSpeech z = with(999, 999);
        for (int w = 0; w < 5; w++) {
            z.word(1, 1, 1, -1);
        }
        z.word(0, 1, 9, -1);
        game("those of the other one don't count", z, 0, 1, 1, 9, 5);
    }

    /** Term 3: as many SECONDS as it takes; for none at all no SECOND. */
    private static void gameSeconds() {
        PailSpeech x = with(0, 9);
        x.become(0, 19);
        x.fetch(0, 28);
        x.word(0, 1, 3, -1);
        x.word(0, 1, 4, -1);
        game("none at all takes no SECOND", x, 0, 1, 3, 7, 0);
        x.word(1, 1, 0, -1);
        game("a SECOND of the other one drips", x, 0, 1, 3, 4, 1);
        PailSpeech y = with(999, 0);
        y.become(1, 19);
        y.fetch(1, 15);
        y.word(0, 1, 10, -1);
        y.word(1, 1, 50, -1);
        game("speaking the other one's PAIL empty", y, 0, 1, 2, 10, 0);
        y.fetch(1, 3);
        game("just enough stays", y, 0, 1, 2, 10 - 50, 0);
        PailSpeech c = with(4, 18);
        c.become(1, 19);
        c.word(0, 3, 9, -1);
        c.word(1, 1, 5, -1);
        game("CUT in one SECOND, the other one drips once", c, 0, 1, 2, -5, 0);
        c.become(1, 18);
        c.fetch(0, 1);
        game("CUT in two SECONDS, the other one drips twice", c, 0, 1, 2, 0, 0);
        PailSpeech z = with(14, 0);
        z.word(0, 3, 50, -1);
        z.word(0, 2, 9, -1);
        game("what would be CUT brings nothing", z, 0, 1, 1, 9, 1);
        z.fetch(0, 1);
        game("just WATER", z, 0, 1, 1, 50, 0);
        game("the rest is gone", z, 0, 1, 3, 50, 0);
        z.fetch(0, 10);
        game("both", z, 0, 1, 3, 59, 0);
    }

    /** Term 3: BEHIND is none or SAID, in the course of the GAME, too. */
    private static void gameBehind() {
        PailSpeech x = with(999, 999);
        x.word(0, 1, 0, -1);
        x.word(0, 1, 30, 0);
        game("first what it stands behind", x, 0, 1, 1, 0, 0);
        game("then the WORD", x, 0, 1, 3, 30, 0);
        x.word(1, 1, 9, 1);
        game("of another one", x, 0, 1, 4, 30 - 9, 0);
        cut(x, 0);
        game("BEHIND is CUT", x, 0, 1, 4, 0, 12);
        PailSpeech y = with(999, 999);
        y.word(0, 1, 5, -1);
        y.word(0, 1, 30, 0);
        said(y, 0);
        game("BEHIND is SAID; growth alone counts", y, 0, 1, 1, 30, 1);
        PailSpeech z = with(9, 999);
        z.word(0, 2, 5, -1);
        z.word(1, 1, 30, 0);
        game("CUT in the GAME isn't SAID", z, 0, 1, 2, 0, 0);
    }

    /** Term 3: as if THUMB were 0 and nothing IN HAND; nothing changes. */
    private static void gameAsIf() {
        PailSpeech x = with(50, 50);
        x.word(0, 4, 10, -1);
        x.word(1, 2, 6, -1);
        x.say(0);
        x.seconds(3);
        game("IN HAND is as if UNSAID, LONG as ever", x, 0, 1, 1, 10, 0);
        game("of the other one", x, 1, 0, 2, 6 - 10, 1);
        x.thumb(1);
        game("THUMB", x, 0, 1, 2, 10 - 6, 0);
        PailSpeech y = with(30, 50);
        y.word(0, 4, 10, -1);
        y.say(0);
        y.seconds(3);
        game("WATER as it is", y, 0, 1, 1, 0, 0);
        for (int n = 1; n <= 4; n++) {
            int picks = n;
            Look.quiet("game by " + n, Courts::rich, z -> z.game(0, 1, picks, 0));
            Look.quiet("game by " + n, Courts::full, z -> z.game(3, 2, picks, 1));
        }
    }

    private static void gameRefused() {
        for (int party : new int[] {-1, 3, FAR[0], FAR[1]}) {
            Look.refused("game(" + party + ", 0, ..)", Courts::rich, Due.BEYOND, x -> x.game(party, 0, 1, 0));
            Look.refused("game(0, " + party + ", ..)", Courts::rich, Due.BEYOND, x -> x.game(0, party, 1, 0));
        }
        Look.refused("one twice", Courts::rich, Due.BEYOND, x -> x.game(2, 2, 1, 0));
        for (int n : new int[] {0, -1, 5, FAR[0], FAR[1]}) {
            Look.refused("game by " + n, Courts::rich, Due.BEYOND, x -> x.game(0, 1, n, 0));
        }
        for (int what : new int[] {-1, 2, FAR[0], FAR[1]}) {
            Look.refused("game: what " + what, Courts::rich, Due.BEYOND, x -> x.game(0, 1, 1, what));
        }
    }

    private static void odds(String what, PailSpeech x, int one, int other, int u, long above, long below) {
        Due.is(what + ": above by " + u, x.odds(one, other, u, 0), above);
        Due.is(what + ": below by " + u, x.odds(one, other, u, 1), below);
    }

    private static PailSpeech worths(int[] ones, int... others) {
        PailSpeech x = with(999, 999, 999);
        for (int w = 0; w < ones.length + others.length; w++) {
            x.word(w < ones.length ? 0 : 1, 1, w < ones.length ? ones[w] : others[w - ones.length], -1);
            said(x, w);
        }
        return x;
    }

    /** Term 3: u of 16, more, lowest terms. */
    private static void odds() {
        PailSpeech none = worths(new int[0]);
        PailSpeech one = worths(new int[] {5});
        for (int u = 0; u <= 16; u++) {
            odds("nothing SAID", none, 0, 1, u, 0, 1);
            int by = u == 0 ? 16 : Integer.lowestOneBit(u);
            odds("one against nothing", one, 0, 1, u, u / by, 16 / by);
            odds("nothing against one", one, 1, 0, u, 0, 1);
        }
        odds("WORTH 0 isn't more", worths(new int[] {0}), 0, 1, 16, 0, 1);
        odds("WORTH 1 is more than 0", worths(new int[] {1}, 0), 0, 1, 16, 1, 1);
        odds("as much isn't more", worths(new int[] {7}, 7), 0, 1, 16, 0, 1);
        odds("as much isn't more", worths(new int[] {7}, 7), 0, 1, 4, 3, 16);
        odds("one more is more", worths(new int[] {8}, 7), 0, 1, 4, 1, 4);
        odds("one less isn't", worths(new int[] {6}, 7), 0, 1, 4, 3, 16);
        odds("two together", worths(new int[] {4, 4}, 7), 0, 1, 8, 1, 2);
        odds("two together", worths(new int[] {4, 4}, 7), 1, 0, 8, 3, 8);
        odds("two together", worths(new int[] {4, 4}, 7), 0, 1, 2, 53, 256);
        odds("the third has none", worths(new int[] {4}, 4), 2, 0, 16, 0, 1);
        odds("against the third", worths(new int[] {4}, 4), 1, 2, 15, 15, 16);
    }

    /** Term 3: SAID WORDS alone, of each the 5 with the least numbers. */
    private static void oddsOfSaidOnes() {
        PailSpeech x = with(999, 999);
        for (int w = 0; w < 8; w++) {
            x.word(w < 7 ? 0 : 1, 1, w == 5 ? 50 : w < 7 ? 1 : 4, -1);
        }
        said(x, 7);
        for (int w = 1; w < 5; w++) {
            said(x, w);
        }
        odds("four ones are no more than 4", x, 0, 1, 16, 0, 1);
        odds("UNSAID ones don't count", x, 1, 0, 16, 0, 1);
        cut(x, 0);
        said(x, 6);
        odds("five ones, the sixth number among them", x, 0, 1, 16, 1, 1);
        said(x, 5);
        odds("the five with the least numbers", x, 0, 1, 16, 1, 1);
        // 1, 1, 1, 1, 50 against 4: a half of 1 by 2, a half of 31 by 32.
        odds("the five with the least numbers", x, 0, 1, 8, 47, 64);
        PailSpeech y = with(999, 999);
        for (int w = 0; w < 12; w++) {
            y.word(w % 2, 1, w >= 10 ? 99 : 1, -1);
            said(y, w);
        }
        odds("of each five", y, 0, 1, 16, 0, 1);
        odds("of each five", y, 0, 1, 8, 193, 512);
        odds("of each five", y, 1, 0, 8, 193, 512);
        PailSpeech z = with(999, 999);
        z.word(0, 1, 9, -1);
        z.say(0);
        odds("what is IN HAND isn't SAID", z, 0, 1, 16, 0, 1);
        PailSpeech five = worths(new int[] {1, 1, 1, 1, 1}, 99, 99, 99, 99, 99);
        odds("terms as great as they get", five, 0, 1, 1, 759375L * (1048576 - 759375), 1L << 40);
    }

    private static void oddsRefused() {
        for (int party : new int[] {-1, 3, FAR[0], FAR[1]}) {
            Look.refused("odds(" + party + ", 0, ..)", Courts::rich, Due.BEYOND, x -> x.odds(party, 0, 8, 0));
            Look.refused("odds(0, " + party + ", ..)", Courts::rich, Due.BEYOND, x -> x.odds(0, party, 8, 0));
        }
        Look.refused("one twice", Courts::rich, Due.BEYOND, x -> x.odds(2, 2, 8, 0));
        for (int u : new int[] {-1, 17, FAR[0], FAR[1]}) {
            Look.refused("odds by " + u, Courts::rich, Due.BEYOND, x -> x.odds(0, 1, u, 0));
        }
        for (int part : new int[] {-1, 2, FAR[0], FAR[1]}) {
            Look.refused("odds: part " + part, Courts::rich, Due.BEYOND, x -> x.odds(0, 1, 8, part));
        }
        Look.quiet("odds above", Courts::rich, 1, x -> x.odds(0, 1, 8, 0));
        Look.quiet("odds below", Courts::rich, 2, x -> x.odds(0, 1, 8, 1));
    }

    private static void carried(String what, int km, int size, int t, int s, int load, int much) {
        PailSpeech x = new PailSpeech();
        x.party(km, size);
        Due.is(what + ": load", x.carried(0, t, s, 0), load);
        Due.is(what + ": how much", x.carried(0, t, s, 1), much);
    }

    /** Term 3: s*(2+l/20) seconds a way, whole ways alone; t 1 to 9999, s 1 to 99. */
    private static void carriedWays() {
        carried("no whole way", 0, 19, 1, 1, 1, 0);
        carried("one whole way", 0, 19, 2, 1, 19, 19);
        carried("one whole way and a half", 0, 19, 3, 1, 19, 19);
        carried("two whole ways", 0, 19, 4, 1, 19, 38);
        carried("19 drops take 2, 20 take 3", 0, 20, 2, 1, 19, 19);
        carried("19 drops take 2, 20 take 3", 0, 20, 3, 1, 20, 20);
        carried("19 drops take 2, 20 take 3", 0, 20, 4, 1, 19, 38);
        carried("39 drops take 3, 40 take 4", 0, 40, 3, 1, 39, 39);
        carried("39 drops take 3, 40 take 4", 0, 40, 4, 1, 40, 40);
        carried("99 STEPS", 0, 19, 197, 99, 1, 0);
        carried("99 STEPS", 0, 19, 198, 99, 19, 19);
        carried("99 STEPS", 0, 19, 395, 99, 19, 19);
        carried("99 STEPS", 0, 19, 396, 99, 19, 38);
        carried("9999 seconds", 0, 1, 9999, 1, 1, 4999);
        carried("9999 seconds", 0, 1, 9998, 1, 1, 4999);
        carried("9999 seconds", 0, 1, 9997, 1, 1, 4998);
        carried("much, not held", 0, 999, 9999, 1, 999, 196 * 999);
        carried("99 STEPS, 9999 seconds", 0, 999, 9999, 99, 979, 2 * 979);
        carried("99 STEPS, 1 second", 0, 999, 1, 99, 1, 0);
    }

    /** Term 3: l 1 to SIZE, less SPILL of m, of several the least. */
    private static void carriedLoads() {
        carried("SIZE 1", 9, 1, 60, 1, 1, 30);
        carried("SIZE 999, one way", 0, 999, 51, 1, 999, 999);
        carried("SIZE 998, one way", 0, 998, 51, 1, 998, 998);
        carried("m 9: 999 lose 179", 9, 999, 51, 1, 999, 820);
        carried("m 9 of another KIND", 69, 999, 51, 1, 999, 820);
        // With m 1 of 50 drops one is lost: 49 and 50 bring 49.
        carried("of several the least", 1, 50, 4, 1, 49, 49);
        carried("one more", 1, 51, 4, 1, 51, 50);
        PailSpeech x = new PailSpeech();
        x.party(3, 30);
        Due.read(x, 1, "(l>9)*l");
        Due.is("the greatest that loses nothing", x.carried(0, 2, 1, 0), 9);
        Due.read(x, 1, "l-1");
        Due.is("all bring 1: the least", x.carried(0, 2, 1, 0), 1);
        Due.read(x, 1, "9999");
        Due.is("SPILL is held to the load: load", x.carried(0, 2, 1, 0), 1);
        Due.is("SPILL is held to the load: how much", x.carried(0, 2, 1, 1), 0);
        Due.read(x, 1, "0-9");
        Due.is("SPILL is held to 0", x.carried(0, 2, 1, 1), 19);
        Due.read(x, 1, "s*100+m-203");
        Due.is("s 2, m 3", x.carried(0, 4, 2, 1), 19);
        Due.read(x, 1, "s*100+m-202");
        Due.is("s 2, m 3", x.carried(0, 4, 2, 1), 18);
        Due.is("WATER doesn't matter", x.ofParty(0, 3), 0);
    }

    private static void carriedRefused() {
        for (int party : new int[] {-1, 3, FAR[0], FAR[1]}) {
            Look.refused("carried(" + party + ", ..)", Courts::rich, Due.BEYOND, x -> x.carried(party, 1, 1, 0));
        }
        for (int t : new int[] {0, -1, 10000, FAR[0], FAR[1]}) {
            Look.refused("carried: t " + t, Courts::rich, Due.BEYOND, x -> x.carried(0, t, 1, 0));
        }
        for (int s : new int[] {0, -1, 100, FAR[0], FAR[1]}) {
            Look.refused("carried: s " + s, Courts::rich, Due.BEYOND, x -> x.carried(0, 1, s, 0));
        }
        for (int what : new int[] {-1, 2, FAR[0], FAR[1]}) {
            Look.refused("carried: what " + what, Courts::rich, Due.BEYOND, x -> x.carried(0, 1, 1, what));
        }
        Look.quiet("carried 0", Courts::rich, x -> x.carried(2, 9999, 99, 0));
        Look.quiet("carried 1", Courts::rich, x -> x.carried(2, 1, 1, 1));
    }

    /** One LEAKY PARTY that speaks, RUNS 5 and m; a SHEET of n numbers that tell so many drops a second. */
    private static PailSpeech told(int km, int n, int drops, boolean speaks) {
        PailSpeech x = new PailSpeech();
        x.party(km, 999);
        x.fetch(0, 999);
        x.word(0, 30, 1, -1);
        if (speaks) {
            x.say(0);
        }
        x.sheet(0, 32, n);
        for (int i = 0; i < n; i++) {
            x.put(0, i, drops * (i + 1));
        }
        return x;
    }

    /** Promise 27: m 0 to 9, the least, all numbers; m stays. */
    private static void explained() {
        for (int drops = 3; drops <= 17; drops++) {
            int due = drops < 5 || drops > 14 ? Due.NONE : drops - 5;
            Due.is("RUNS " + drops, told(13, 7, drops, true).explained(0, 0), due);
        }
        for (int drops = 0; drops <= 6; drops++) {
            Due.is("DRIPS " + drops, told(13, 7, drops, false).explained(0, 0), drops > 4 ? Due.NONE : 2 * drops);
            int due = drops == 0 || drops == 6 ? Due.NONE : 2 * (drops - 1);
            Due.is("DRIPS of HOLED " + drops, told(41, 7, drops, false).explained(0, 0), due);
        }
        Due.is("no m matters", told(9, 7, 5, true).explained(0, 0), 0);
        Due.is("no number", told(19, 0, 5, true).explained(0, 0), 0);
        Due.is("no number", told(9, 0, 5, false).explained(0, 0), 0);
        for (int n : new int[] {1, 2, 29, 30}) {
            for (int off = -1; off < n; off += n > 2 ? n / 3 : 1) {
                PailSpeech x = told(13, n, 9, true);
                if (off >= 0) {
                    x.put(0, off, 9 * (off + 1) + 1);
                }
                Due.is(n + " numbers, unlike " + off, x.explained(0, 0), off < 0 ? 4 : n == 1 ? 5 : Due.NONE);
                Due.is("m stays", x.ofParty(0, 1), 3);
            }
        }
        PailSpeech forty = told(13, 40, 9, true);
        for (int i = 30; i < 40; i++) {
            forty.put(0, i, 270 + 2 * (i - 29));
        }
        Due.is("40 numbers: 30 seconds of RUNS, 10 of DRIPS", forty.explained(0, 0), 4);
        forty.put(0, 39, 291);
        Due.is("the last of 40 is unlike", forty.explained(0, 0), Due.NONE);
    }

    /** Term 3: FLOOR AHEAD, as it is now and more; the m of one PARTY alone. */
    private static void explainedAhead() {
        PailSpeech x = told(16, 2, 8, false);
        x.party(18, 99);
        x.fetch(1, 99);
        x.seconds(3);
        // 3 and 4 drops a second: 21 now.
        x.put(0, 0, 21 + 6);
        x.put(0, 1, 21 + 12);
        Due.is("by the first", x.explained(0, 0), 4);
        Due.is("by the second", x.explained(1, 0), 6);
        x.thumb(1);
        Due.is("THUMB", x.explained(0, 0), Due.NONE);
        x.put(0, 0, 21);
        x.put(0, 1, 21);
        Due.is("THUMB: FLOOR stays", x.explained(1, 0), 0);
        x.thumb(0);
        Due.is("without THUMB by no m of one", x.explained(0, 0), Due.NONE);
        x.put(0, 0, 21 + 4);
        x.put(0, 1, 21 + 8);
        Due.is("the other one's DRIPS alone", x.explained(0, 0), 0);
    }

    private static void explainedRefused() {
        for (int party : new int[] {-1, 3, FAR[0], FAR[1]}) {
            Look.refused("explained(" + party + ", 0)", Courts::rich, Due.BEYOND, x -> x.explained(party, 0));
            Look.refused("explained(" + party + ", 3), missing", Courts::rich, Due.BEYOND, x -> x.explained(party, 3));
        }
        for (int sheet : new int[] {-1, 4, FAR[0], FAR[1]}) {
            Look.refused("explained(0, " + sheet + ")", Courts::rich, Due.BEYOND, x -> x.explained(0, sheet));
        }
        Look.refused("missing", Courts::rich, Due.NONE, x -> x.explained(0, 3));
        Look.refused("by no m", Courts::rich, Due.NONE, x -> x.explained(0, 0));
        Look.quiet("explained", () -> told(13, 7, 9, true), 4, x -> x.explained(0, 0));
        Look.quiet("explained", () -> told(13, 40, 0, false), 0, x -> x.explained(0, 0));
    }
}
