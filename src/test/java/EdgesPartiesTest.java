/** Promises 1 to 8 at their edges: the last that is within, the first that is without, what a refused call changes. */
public final class EdgesPartiesTest {
    private static final int[] FAR = {Integer.MIN_VALUE, Integer.MAX_VALUE};

    public static void main(String[] args) {
        newObject();
        party();
        partyRefused();
        runsAndDripsOfAll();
        ofParty();
        become();
        becomeRefused();
        as();
        word();
        wordRefused();
        ofWord();
        set();
        setRefused();
        Due.end();
    }

    /** Promise 1: all as at first; no PARTIES, no WORDS. */
    private static void newObject() {
        Due.is("new: no PARTY", new PailSpeech().ofParty(0, 0), Due.BEYOND);
        Due.is("new: no WORD", new PailSpeech().ofWord(0, 0), Due.BEYOND);
        Due.is("new: nothing IN HAND", new PailSpeech().stop(), Due.NONE);
        Due.is("new: no BODIES", new PailSpeech().trace(0), Due.NONE);
        Due.is("new: THE TAPE is empty", new PailSpeech().text(0), -10);
        Due.is("new: none waits", new PailSpeech().check(), 0);
        Due.is("new: no IMAGE", new PailSpeech().restore(), Due.NONE);
        Due.is("new: none was kept", new PailSpeech().image(), 1);
        Due.is("new: z", new PailSpeech().seed(0), 1);
        Due.is("new: THUMB", new PailSpeech().thumb(1), 0);
        Due.is("new: FLOOR", new PailSpeech().seconds(300), 0);
        Due.is("new: nobody would leave", new PailSpeech().leaves(), Due.NONE);
        for (int s = 0; s < 4; s++) {
            Due.is("new: SHEETS are missing", new PailSpeech().judge(s), Due.NONE);
        }
        PailSpeech x = new PailSpeech();
        x.party(69, 1);
        x.word(0, 1, 0, -1);
        Look.same("two new objects have nothing in common", Courts::empty, PailSpeech::new);
    }

    /** Promise 2: km 0 to 69, SIZE 1 to 999, at most 4. */
    private static void party() {
        for (int km = 0; km <= 69; km++) {
            PailSpeech x = new PailSpeech();
            Due.is("party(" + km + ", 1)", x.party(km, 1), 0);
            Due.is("KIND of " + km, x.ofParty(0, 0), km / 10);
            Due.is("m of " + km, x.ofParty(0, 1), km % 10);
        }
        PailSpeech x = new PailSpeech();
        Due.is("the least SIZE", x.party(0, 1), 0);
        Due.is("the greatest SIZE", x.party(0, 999), 1);
        Due.is("SIZE 1 holds 1", x.fetch(0, 999), 1);
        Due.is("SIZE 999 holds 999", x.fetch(1, 999), 999);
        Due.is("third", x.party(0, 2), 2);
        Due.is("fourth", x.party(0, 3), 3);
        Due.is("no fifth", x.party(0, 4), Due.FULL);
        Due.is("still 4", x.count(0), 4);
        Due.is("the fourth stays", x.ofParty(3, 2), 3);
        for (int what : new int[] {3, 4, 7}) {
            Due.is("0 at first", x.ofParty(3, what), 0);
        }
    }

    private static void partyRefused() {
        for (int km : new int[] {-1, 70, FAR[0], FAR[1]}) {
            Look.refused("party(" + km + ", 50)", Courts::rich, Due.BEYOND, x -> x.party(km, 50));
            Look.refused("party(" + km + ", 50) of 4", Courts::full, Due.BEYOND, x -> x.party(km, 50));
        }
        for (int size : new int[] {0, -1, 1000, FAR[0], FAR[1]}) {
            Look.refused("party(0, " + size + ")", Courts::rich, Due.BEYOND, x -> x.party(0, size));
            Look.refused("party(0, " + size + ") of 4", Courts::full, Due.BEYOND, x -> x.party(0, size));
        }
        Look.refused("a fifth PARTY", Courts::full, Due.FULL, x -> x.party(0, 50));
    }

    /** Term 1: RUNS and DRIPS of each KIND by each m, 1 RUNS at least. */
    private static void runsAndDripsOfAll() {
        for (int m = 0; m <= 9; m++) {
            int half = m / 2;
            int[] runs = {5, 5 + m, 5 - half, 1, 10 + 2 * m, m <= 3 ? 2 : 1, 1 + m};
            int[] drips = {0, half, 0, 1, half + 1, 0, 1};
            PailSpeech x = new PailSpeech();
            x.party(0, 9);
            for (int kind = 0; kind <= 6; kind++) {
                x.become(0, 10 * kind + m);
                Due.is("RUNS of KIND " + kind + ", m " + m, x.ofParty(0, 5), runs[kind]);
                Due.is("DRIPS of KIND " + kind + ", m " + m, x.ofParty(0, 6), drips[kind]);
            }
        }
    }

    /** Promise 3: what 0 to 7 of each PARTY; nothing changes. */
    private static void ofParty() {
        int[] due = {1, 2, 200, waterOfTheFirst(), 10, 7, 1, 1};
        for (int what = 0; what <= 7; what++) {
            int w = what;
            Look.quiet("ofParty(0, " + what + ")", Courts::quiet, due[what], x -> x.ofParty(0, w));
        }
        Look.quiet("SAID WORDS of its own alone", Courts::quiet, 0, x -> x.ofParty(1, 7));
        Look.quiet("SAID WORDS of its own alone", Courts::quiet, 0, x -> x.ofParty(2, 7));
        PailSpeech all = Courts.alike(2, 0);
        for (int w = 0; w < 12; w++) {
            all.word(w == 5 ? 1 : 0, 1, 1, -1);
            Due.is("none more is SAID as yet", all.ofParty(0, 7), w > 5 ? w - 1 : w);
            all.say(w);
            all.seconds(1);
        }
        Due.is("all of its own are SAID", all.ofParty(0, 7), 11);
        Due.is("one of the other one is", all.ofParty(1, 7), 1);
        for (int party : new int[] {-1, 3, FAR[0], FAR[1]}) {
            Look.refused("ofParty(" + party + ", 0)", Courts::rich, Due.BEYOND, x -> x.ofParty(party, 0));
        }
        for (int what : new int[] {-1, 8, FAR[0], FAR[1]}) {
            Look.refused("ofParty(0, " + what + ")", Courts::rich, Due.BEYOND, x -> x.ofParty(0, what));
        }
        Look.refused("a fifth PARTY", Courts::full, Due.BEYOND, x -> x.ofParty(4, 0));
    }

    /** WATER of PARTY 0 of Courts.quiet(): 180, 2 SECONDS by RUNS, one by DRIPS, 2 LOOSE ones. */
    private static int waterOfTheFirst() {
        int water = 180 - 2 * 7 - 1;
        int z = 77;
        for (int i = 0; i < 2; i++) {
            z = z * 1103515245 + 12345;
            boolean mine = (z >>> 8) % 4 == 0;
            z = z * 1103515245 + 12345;
            water -= (mine ? (z >>> 8) % 6 : 0) + 1;
        }
        return water;
    }

    /** Promise 4: another KIND, another m, and nothing else. */
    private static void become() {
        PailSpeech x = new PailSpeech();
        x.party(69, 700);
        x.fetch(0, 600);
        x.word(0, 1, 50, -1);
        x.say(0);
        x.seconds(1);
        Due.is("the least km", x.become(0, 0), 6);
        Due.is("KIND", x.ofParty(0, 0), 0);
        Due.is("m", x.ofParty(0, 1), 0);
        Due.is("the greatest km", x.become(0, 69), 0);
        Due.is("KIND", x.ofParty(0, 0), 6);
        Due.is("m", x.ofParty(0, 1), 9);
        Due.is("SIZE stays", x.ofParty(0, 2), 700);
        Due.is("WATER stays", x.ofParty(0, 3), 590);
        Due.is("HEARD stays", x.ofParty(0, 4), 50);
        Due.is("its WORDS stay", x.ofParty(0, 7), 1);
        Due.is("m alone", x.become(0, 60), 6);
        Due.is("m alone", x.ofParty(0, 1), 0);
        x.word(0, 4, 1, -1);
        x.say(1);
        Due.is("RUNS 1", x.seconds(1), 11);
        x.become(0, 49);
        Due.is("what is IN HAND stays so", x.count(5), 1);
        Due.is("TO GO stays", x.count(6), 3);
        Due.is("RUNS 28 from now on", x.seconds(1), 39);
    }

    private static void becomeRefused() {
        for (int party : new int[] {-1, 3, FAR[0], FAR[1]}) {
            Look.refused("become(" + party + ", 33)", Courts::rich, Due.BEYOND, x -> x.become(party, 33));
        }
        for (int km : new int[] {-1, 70, FAR[0], FAR[1]}) {
            Look.refused("become(0, " + km + ")", Courts::rich, Due.BEYOND, x -> x.become(0, km));
        }
    }

    /** Promise 5: m, if it is of that KIND or of one under it. */
    private static void as() {
        Look.quiet("as its own", Courts::rich, 5, x -> x.as(2, 4));
        Look.quiet("as the one above", Courts::rich, 5, x -> x.as(2, 1));
        Look.quiet("as the highest", Courts::rich, 5, x -> x.as(2, 0));
        for (int kind : new int[] {2, 3, 5, 6}) {
            Look.refused("as(2, " + kind + ")", Courts::rich, Due.KIND, x -> x.as(2, kind));
        }
        Look.refused("as one under it", Courts::rich, Due.KIND, x -> x.as(0, 4));
        for (int kind : new int[] {-1, 7, FAR[0], FAR[1]}) {
            Look.refused("as(0, " + kind + ")", Courts::rich, Due.BEYOND, x -> x.as(0, kind));
        }
        for (int party : new int[] {-1, 3, FAR[0], FAR[1]}) {
            Look.refused("as(" + party + ", 0)", Courts::rich, Due.BEYOND, x -> x.as(party, 0));
            Look.refused("as(" + party + ", 5)", Courts::rich, Due.BEYOND, x -> x.as(party, 5));
        }
    }

    /** Promise 6: LONG 1 to 30, WORTH 0 to 99, BEHIND a lesser number or -1, at most 12. */
    private static void word() {
        PailSpeech x = new PailSpeech();
        x.party(0, 999);
        x.party(0, 999);
        Due.is("BEHIND a WORD that isn't", x.word(0, 1, 0, 0), Due.BEYOND);
        Due.is("the least", x.word(0, 1, 0, -1), 0);
        Due.is("BEHIND the least number", x.word(1, 30, 99, 0), 1);
        Due.is("BEHIND oneself", x.word(1, 1, 1, 2), Due.BEYOND);
        Due.is("BEHIND the greatest lesser number", x.word(1, 2, 3, 1), 2);
        Due.is("two BEHIND one", x.word(1, 2, 3, 1), 3);
        for (int w = 4; w < 12; w++) {
            Due.is("one more", x.word(w % 2, w, 5 * w, w - 1), w);
        }
        Due.is("no thirteenth", x.word(0, 1, 0, -1), Due.FULL);
        Due.is("still 12", x.count(1), 12);
        int[][] due = {{0, 1, 0, -1, 0}, {1, 30, 99, 0, 0}, {1, 2, 3, 1, 0}, {1, 2, 3, 1, 0}};
        for (int w = 0; w < 12; w++) {
            int[] of = w < 4 ? due[w] : new int[] {w % 2, w, 5 * w, w - 1, 0};
            for (int what = 0; what <= 4; what++) {
                Due.is("ofWord(" + w + ", " + what + ")", x.ofWord(w, what), of[what]);
            }
        }
        PailSpeech y = Courts.quiet();
        Due.is("BEHIND a SAID one", y.word(1, 1, 1, 0), 9);
        Due.is("BEHIND a CUT one", y.word(1, 1, 1, 1), 10);
        Due.is("of the last PARTY", y.word(2, 1, 1, -1), 11);
    }

    private static void wordRefused() {
        int[][] calls = {{-1, 1, 1, -1}, {3, 1, 1, -1}, {FAR[0], 1, 1, -1}, {FAR[1], 1, 1, -1},
            {0, 0, 1, -1}, {0, 31, 1, -1}, {0, FAR[0], 1, -1}, {0, FAR[1], 1, -1},
            {0, 1, -1, -1}, {0, 1, 100, -1}, {0, 1, FAR[0], -1}, {0, 1, FAR[1], -1},
            {0, 1, 1, -2}, {0, 1, 1, 9}, {0, 1, 1, FAR[0]}, {0, 1, 1, FAR[1]}};
        for (int[] c : calls) {
            String name = "word(" + c[0] + ", " + c[1] + ", " + c[2] + ", " + c[3] + ")";
            Look.refused(name, Courts::rich, Due.BEYOND, x -> x.word(c[0], c[1], c[2], c[3]));
        }
        int[][] ofFull = {{4, 1, 1, -1}, {0, 0, 1, -1}, {0, 31, 1, -1}, {0, 1, -1, -1}, {0, 1, 100, -1},
            {0, 1, 1, -2}, {0, 1, 1, 12}};
        for (int[] c : ofFull) {
            String name = "word(" + c[0] + ", " + c[1] + ", " + c[2] + ", " + c[3] + ") of 12";
            Look.refused(name, Courts::full, Due.BEYOND, x -> x.word(c[0], c[1], c[2], c[3]));
        }
        Look.refused("a thirteenth WORD", Courts::full, Due.FULL, x -> x.word(0, 1, 1, 11));
    }

    /** Promise 7: what 0 to 4 of each WORD; nothing changes. */
    private static void ofWord() {
        int[] due = {0, 9, 30, 0, 0};
        for (int what = 0; what <= 4; what++) {
            int w = what;
            Look.quiet("ofWord(2, " + what + ")", Courts::rich, due[what], x -> x.ofWord(2, w));
        }
        Look.quiet("SAID", Courts::rich, 1, x -> x.ofWord(0, 4));
        Look.quiet("CUT", Courts::rich, 2, x -> x.ofWord(1, 4));
        Look.quiet("BEHIND none", Courts::rich, -1, x -> x.ofWord(8, 3));
        for (int word : new int[] {-1, 9, FAR[0], FAR[1]}) {
            Look.refused("ofWord(" + word + ", 0)", Courts::rich, Due.BEYOND, x -> x.ofWord(word, 0));
        }
        for (int what : new int[] {-1, 5, FAR[0], FAR[1]}) {
            Look.refused("ofWord(0, " + what + ")", Courts::rich, Due.BEYOND, x -> x.ofWord(0, what));
        }
        Look.refused("a thirteenth WORD", Courts::full, Due.BEYOND, x -> x.ofWord(12, 0));
    }

    /** Promise 8: LONG 1 to 30 and WORTH 0 to 99 of an UNSAID WORD. */
    private static void set() {
        PailSpeech x = Courts.rich();
        Due.is("the greatest LONG", x.set(8, 1, 30), 2);
        Due.is("the least LONG", x.set(8, 1, 1), 30);
        Due.is("the greatest WORTH", x.set(8, 2, 99), 60);
        Due.is("the least WORTH", x.set(8, 2, 0), 99);
        Due.is("LONG", x.ofWord(8, 1), 1);
        Due.is("WORTH", x.ofWord(8, 2), 0);
        Due.is("another one stays", x.ofWord(7, 1), 1);
        Due.is("another one stays", x.ofWord(7, 2), 3);
        Due.is("an UNSAID one BEHIND a CUT one", x.set(4, 1, 5), 3);
        Look.same("what it was, again", Courts::rich, Look.after(Look.after(Courts::rich, y -> y.set(8, 1, 9)),
            y -> y.set(8, 1, 2)));
    }

    private static void setRefused() {
        int[][] calls = {{-1, 1, 5}, {9, 1, 5}, {FAR[0], 2, 5}, {FAR[1], 2, 5},
            {8, 0, 5}, {8, 3, 5}, {8, -1, 5}, {8, FAR[0], 5}, {8, FAR[1], 5},
            {8, 1, 0}, {8, 1, 31}, {8, 1, FAR[0]}, {8, 1, FAR[1]},
            {8, 2, -1}, {8, 2, 100}, {8, 2, FAR[0]}, {8, 2, FAR[1]},
            {0, 1, 0}, {0, 1, 31}, {1, 2, -1}, {1, 2, 100}, {2, 1, 31}, {2, 3, 5}};
        for (int[] c : calls) {
            String name = "set(" + c[0] + ", " + c[1] + ", " + c[2] + ")";
            Look.refused(name, Courts::rich, Due.BEYOND, x -> x.set(c[0], c[1], c[2]));
        }
        for (int word = 0; word <= 2; word++) {
            int w = word;
            Look.refused("LONG of WORD " + w, Courts::rich, Due.STATE, x -> x.set(w, 1, 5));
            Look.refused("WORTH of WORD " + w, Courts::rich, Due.STATE, x -> x.set(w, 2, 5));
        }
        Due.is("not IN HAND any more", Look.after(Courts::quiet, x -> x.say(5)).made().set(2, 1, 5), 9);
    }
}
