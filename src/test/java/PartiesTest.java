/** Promises 1 to 8: a new object, parties, words. */
public final class PartiesTest {
    public static void main(String[] args) {
        newObject();
        party();
        runsAndDrips();
        become();
        as();
        word();
        set();
        Due.end();
    }

    private static void newObject() {
        PailSpeech x = new PailSpeech();
        int[] first = {0, 0, 0, 0, 0, -1, 0, 0, 0, 0, 0, 1};
        for (int what = 0; what < first.length; what++) {
            Due.is("new: count(" + what + ")", x.count(what), first[what]);
        }
        for (int k = 1; k <= 5; k++) {
            Due.is("new: told(" + k + ")", x.told(k), 0);
        }
        for (int s = 0; s < 4; s++) {
            Due.is("new: put", x.put(s, 0, 0), Due.NONE);
        }
        Due.is("new: trace", x.trace(0), Due.NONE);
        Due.is("new: restore", x.restore(), Due.NONE);
        Due.is("new: law without a TEXT", x.law(0, 7, 1, 1), 7);
        Due.is("new: law without a TEXT", x.law(1, 50, 1, 2), 2);
    }

    private static void party() {
        PailSpeech x = new PailSpeech();
        Due.is("km below", x.party(-1, 5), Due.BEYOND);
        Due.is("km above", x.party(70, 5), Due.BEYOND);
        Due.is("size below", x.party(0, 0), Due.BEYOND);
        Due.is("size above", x.party(0, 1000), Due.BEYOND);
        Due.is("far", x.party(Integer.MIN_VALUE, Integer.MAX_VALUE), Due.BEYOND);
        Due.is("first", x.party(69, 999), 0);
        Due.is("second", x.party(0, 1), 1);
        Due.is("third", x.party(38, 7), 2);
        Due.is("fourth", x.party(10, 8), 3);
        Due.is("fifth", x.party(10, 8), Due.FULL);
        Due.is("BEYOND ahead of FULL", x.party(70, 8), Due.BEYOND);
        int[] of = {6, 9, 999, 0, 0, 10, 1, 0};
        for (int what = 0; what < of.length; what++) {
            Due.is("ofParty(0, " + what + ")", x.ofParty(0, what), of[what]);
        }
        Due.is("ofParty what", x.ofParty(0, 8), Due.BEYOND);
        Due.is("ofParty what", x.ofParty(0, -1), Due.BEYOND);
        Due.is("ofParty party", x.ofParty(4, 0), Due.BEYOND);
        Due.is("ofParty party", x.ofParty(-1, 0), Due.BEYOND);
        Due.is("how many", x.count(0), 4);
    }

    private static void runsAndDrips() {
        // Of each KIND with m 0, 1, 8, 9: RUNS, DRIPS.
        int[][] due = {
            {5, 0, 5, 0, 5, 0, 5, 0},
            {5, 0, 6, 0, 13, 4, 14, 4},
            {5, 0, 5, 0, 1, 0, 1, 0},
            {1, 1, 1, 1, 1, 1, 1, 1},
            {10, 1, 12, 1, 26, 5, 28, 5},
            {2, 0, 2, 0, 1, 0, 1, 0},
            {1, 1, 2, 1, 9, 1, 10, 1},
        };
        int[] ms = {0, 1, 8, 9};
        for (int kind = 0; kind <= 6; kind++) {
            for (int i = 0; i < ms.length; i++) {
                PailSpeech x = new PailSpeech();
                x.party(kind * 10 + ms[i], 50);
                Due.is("RUNS of " + kind + " by " + ms[i], x.ofParty(0, 5), due[kind][2 * i]);
                Due.is("DRIPS of " + kind + " by " + ms[i], x.ofParty(0, 6), due[kind][2 * i + 1]);
            }
        }
    }

    private static void become() {
        PailSpeech x = new PailSpeech();
        x.party(45, 100);
        x.fetch(0, 30);
        Due.is("party", x.become(1, 0), Due.BEYOND);
        Due.is("km", x.become(0, 70), Due.BEYOND);
        Due.is("km", x.become(0, -1), Due.BEYOND);
        Due.is("nothing changed", x.ofParty(0, 1), 5);
        Due.is("what it was", x.become(0, 12), 4);
        Due.is("KIND", x.ofParty(0, 0), 1);
        Due.is("m", x.ofParty(0, 1), 2);
        Due.is("WATER stays", x.ofParty(0, 3), 30);
        Due.is("RUNS", x.ofParty(0, 5), 7);
        Due.is("what it was", x.become(0, 0), 1);
    }

    private static void as() {
        int[][] ups = {{0}, {1, 0}, {2, 0}, {3, 0}, {4, 1, 0}, {5, 2, 0}, {6, 3, 0}};
        for (int kind = 0; kind <= 6; kind++) {
            PailSpeech x = new PailSpeech();
            x.party(kind * 10 + 7, 50);
            for (int other = 0; other <= 6; other++) {
                boolean is = false;
                for (int up : ups[kind]) {
                    is |= up == other;
                }
                Due.is(kind + " as " + other, x.as(0, other), is ? 7 : Due.KIND);
            }
            Due.is("as kind", x.as(0, 7), Due.BEYOND);
            Due.is("as kind", x.as(0, -1), Due.BEYOND);
            Due.is("as party", x.as(1, 0), Due.BEYOND);
        }
    }

    private static void word() {
        PailSpeech x = new PailSpeech();
        Due.is("no party", x.word(0, 1, 0, -1), Due.BEYOND);
        x.party(0, 10);
        x.party(0, 10);
        Due.is("takes", x.word(0, 0, 0, -1), Due.BEYOND);
        Due.is("takes", x.word(0, 31, 0, -1), Due.BEYOND);
        Due.is("worth", x.word(0, 1, -1, -1), Due.BEYOND);
        Due.is("worth", x.word(0, 1, 100, -1), Due.BEYOND);
        Due.is("behind", x.word(0, 1, 0, -2), Due.BEYOND);
        Due.is("behind itself", x.word(0, 1, 0, 0), Due.BEYOND);
        Due.is("party", x.word(-1, 1, 0, -1), Due.BEYOND);
        Due.is("first", x.word(1, 30, 99, -1), 0);
        Due.is("behind another's", x.word(0, 1, 0, 0), 1);
        for (int w = 2; w < 12; w++) {
            Due.is("more", x.word(0, 2, w, w - 1), w);
        }
        Due.is("thirteenth", x.word(0, 2, 0, 11), Due.FULL);
        Due.is("BEYOND ahead of FULL", x.word(0, 2, 0, 12), Due.BEYOND);
        int[] of = {1, 30, 99, -1, 0};
        for (int what = 0; what < of.length; what++) {
            Due.is("ofWord(0, " + what + ")", x.ofWord(0, what), of[what]);
        }
        Due.is("ofWord", x.ofWord(11, 3), 10);
        Due.is("ofWord word", x.ofWord(12, 0), Due.BEYOND);
        Due.is("ofWord word", x.ofWord(-1, 0), Due.BEYOND);
        Due.is("ofWord what", x.ofWord(0, 5), Due.BEYOND);
        Due.is("ofWord what", x.ofWord(0, -1), Due.BEYOND);
        Due.is("how many", x.count(1), 12);
    }

    private static void set() {
        PailSpeech x = new PailSpeech();
        x.party(0, 100);
        x.word(0, 2, 5, -1);
        x.word(0, 3, 6, -1);
        Due.is("word", x.set(2, 1, 1), Due.BEYOND);
        Due.is("what", x.set(0, 3, 1), Due.BEYOND);
        Due.is("LONG", x.set(0, 1, 0), Due.BEYOND);
        Due.is("LONG", x.set(0, 1, 31), Due.BEYOND);
        Due.is("WORTH", x.set(0, 2, -1), Due.BEYOND);
        Due.is("WORTH", x.set(0, 2, 100), Due.BEYOND);
        Due.is("LONG was", x.set(0, 1, 30), 2);
        Due.is("LONG was", x.set(0, 1, 4), 30);
        Due.is("WORTH was", x.set(0, 2, 0), 5);
        Due.is("WORTH was", x.set(0, 2, 99), 0);
        Due.is("LONG is", x.ofWord(0, 1), 4);
        Due.is("WORTH is", x.ofWord(0, 2), 99);
        x.fetch(0, 20);
        x.say(0);
        Due.is("IN HAND", x.set(0, 1, 5), Due.STATE);
        Due.is("BEYOND ahead of STATE", x.set(0, 1, 31), Due.BEYOND);
        Due.is("another one", x.set(1, 1, 5), 3);
        x.seconds(4);
        Due.is("SAID", x.set(0, 2, 5), Due.STATE);
        x.say(1);
        x.stop();
        Due.is("CUT", x.set(1, 2, 5), Due.STATE);
    }
}
