/** Promises 9 to 17: water, the hearing. */
public final class HearingTest {
    public static void main(String[] args) {
        fetch();
        pour();
        object();
        say();
        cut();
        seconds();
        ear();
        loose();
        ahead();
        lateSeconds();
        Due.end();
    }

    private static void fetch() {
        PailSpeech x = new PailSpeech();
        x.party(0, 50);
        Due.is("party", x.fetch(1, 5), Due.BEYOND);
        Due.is("n", x.fetch(0, 0), Due.BEYOND);
        Due.is("n", x.fetch(0, 1000), Due.BEYOND);
        Due.is("one", x.fetch(0, 1), 1);
        Due.is("some", x.fetch(0, 19), 20);
        Due.is("up to SIZE", x.fetch(0, 30), 50);
        Due.is("too much", x.fetch(0, 999), 50);
        Due.is("runs off", x.count(3), 0);
        Due.is("WATER of all", x.count(7), 50);
    }

    private static void pour() {
        PailSpeech x = new PailSpeech();
        x.party(0, 50);
        x.party(0, 30);
        x.fetch(0, 50);
        Due.is("oneself", x.pour(0, 0, 5), Due.BEYOND);
        Due.is("from", x.pour(2, 0, 5), Due.BEYOND);
        Due.is("to", x.pour(0, 2, 5), Due.BEYOND);
        Due.is("n", x.pour(0, 1, 0), Due.BEYOND);
        Due.is("n", x.pour(0, 1, 1000), Due.BEYOND);
        Due.is("less", x.pour(0, 1, 51), Due.STATE);
        Due.is("don't fit", x.pour(0, 1, 31), Due.FULL);
        Due.is("fit", x.pour(0, 1, 30), 30);
        Due.is("left", x.ofParty(0, 3), 20);
        Due.is("STATE ahead of FULL", x.pour(0, 1, 21), Due.STATE);
        Due.is("full", x.pour(0, 1, 1), Due.FULL);
        Due.is("one", x.pour(1, 0, 1), 21);
        Due.is("back", x.pour(1, 0, 29), 50);
        Due.is("FLOOR", x.count(3), 0);
    }

    private static void object() {
        PailSpeech x = new PailSpeech();
        x.party(0, 90);
        x.party(0, 90);
        x.fetch(0, 60);
        x.fetch(1, 50);
        x.word(0, 9, 1, -1);
        Due.is("nothing IN HAND", x.object(1, 5), Due.STATE);
        x.say(0);
        Due.is("one's own", x.object(0, 5), Due.STATE);
        Due.is("party", x.object(2, 5), Due.BEYOND);
        Due.is("n", x.object(1, 0), Due.BEYOND);
        Due.is("n", x.object(1, 100), Due.BEYOND);
        Due.is("less", x.object(1, 51), Due.STATE);
        Due.is("one", x.object(1, 1), 58);
        Due.is("twice", x.object(1, 19), 20);
        Due.is("FLOOR", x.count(3), 60);
        Due.is("one's own", x.ofParty(1, 3), 30);
        Due.is("as much as there is", x.object(1, 30), 0);
        Due.is("FLOOR", x.count(3), 110);
        Due.is("not yet CUT", x.count(5), 0);
        x.seconds(1);
        Due.is("CUT", x.ofWord(0, 4), 2);
    }

    private static void say() {
        PailSpeech x = new PailSpeech();
        x.party(0, 90);
        x.fetch(0, 90);
        x.word(0, 2, 7, -1);
        x.word(0, 3, 8, 0);
        Due.is("word", x.say(2), Due.BEYOND);
        Due.is("word", x.say(-1), Due.BEYOND);
        Due.is("BEHIND isn't SAID", x.say(1), Due.STATE);
        Due.is("stop of nothing", x.stop(), Due.NONE);
        Due.is("LONG", x.say(0), 2);
        Due.is("IN HAND", x.count(5), 0);
        Due.is("TO GO", x.count(6), 2);
        Due.is("still UNSAID", x.ofWord(0, 4), 0);
        Due.is("one is IN HAND", x.say(0), Due.STATE);
        x.seconds(1);
        Due.is("TO GO", x.count(6), 1);
        x.seconds(1);
        Due.is("SAID", x.ofWord(0, 4), 1);
        Due.is("HEARD", x.ofParty(0, 4), 7);
        Due.is("SAID of it", x.ofParty(0, 7), 1);
        Due.is("nothing IN HAND", x.count(5), -1);
        Due.is("TO GO", x.count(6), 0);
        Due.is("it isn't UNSAID", x.say(0), Due.STATE);
        Due.is("its BEHIND is SAID", x.say(1), 3);
        Due.is("stop", x.stop(), 1);
        Due.is("CUT", x.ofWord(1, 4), 2);
        Due.is("CUT isn't UNSAID", x.say(1), Due.STATE);
        Due.is("CUT isn't SAID", x.ofParty(0, 7), 1);
        Due.is("TO GO", x.count(6), 0);
    }

    private static void cut() {
        PailSpeech x = new PailSpeech();
        x.party(0, 90);
        x.fetch(0, 13);
        x.word(0, 3, 7, -1);
        x.word(0, 1, 7, -1);
        x.say(0);
        Due.is("enough", x.seconds(2), 10);
        Due.is("IN HAND", x.count(5), 0);
        Due.is("less than RUNS: what there is", x.seconds(1), 13);
        Due.is("CUT", x.ofWord(0, 4), 2);
        Due.is("not HEARD", x.ofParty(0, 4), 0);
        x.fetch(0, 5);
        x.say(1);
        Due.is("just RUNS", x.seconds(1), 18);
        Due.is("SAID", x.ofWord(1, 4), 1);

        PailSpeech y = new PailSpeech();
        y.party(0, 90);
        y.party(0, 90);
        y.fetch(0, 90);
        y.fetch(1, 9);
        y.word(1, 3, 7, -1);
        y.say(0);
        Due.is("its own WATER counts", y.seconds(5), 9);
        Due.is("CUT", y.ofWord(0, 4), 2);
    }

    private static void seconds() {
        PailSpeech x = new PailSpeech();
        Due.is("n", x.seconds(0), Due.BEYOND);
        Due.is("n", x.seconds(301), Due.BEYOND);
        Due.is("without PARTIES", x.seconds(300), 0);
        x.party(0, 90);
        x.party(47, 20);
        x.party(30, 2);
        x.fetch(0, 90);
        x.fetch(1, 20);
        x.fetch(2, 2);
        x.word(0, 2, 3, -1);
        x.say(0);
        // 5 of the one that speaks, 4 of HOLED, 1 of DUMB.
        Due.is("first", x.seconds(1), 10);
        x.thumb(1);
        Due.is("THUMB", x.seconds(7), 10);
        Due.is("SECOND", x.count(2), 308);
        Due.is("TO GO", x.count(6), 1);
        x.thumb(0);
        Due.is("said, then drips; DUMB is empty", x.seconds(3), 10 + 5 + 12 + 1);
        Due.is("WATER", x.ofParty(0, 3), 80);
        Due.is("WATER", x.ofParty(1, 3), 4);
        Due.is("WATER", x.ofParty(2, 3), 0);
        Due.is("thumb", x.thumb(2), Due.BEYOND);
        Due.is("thumb", x.thumb(-1), Due.BEYOND);
        Due.is("THUMB was", x.thumb(1), 0);
        Due.is("THUMB was", x.thumb(1), 1);
        Due.is("THUMB is", x.count(4), 1);
    }

    private static void ear() {
        PailSpeech x = new PailSpeech();
        x.party(0, 999);
        x.fetch(0, 999);
        x.word(0, 2, 10, -1);
        x.word(0, 3, 20, -1);
        Due.is("EAR", Due.read(x, 0, "w*l+h"), 1);
        x.say(0);
        x.seconds(2);
        Due.is("HEARD", x.ofParty(0, 4), 20);
        Due.is("AHEAD", x.then(3, 0, 1), 20);
        x.say(1);
        Due.is("AHEAD", x.then(3, 0, 1), 100);
        x.seconds(3);
        Due.is("HEARD ahead of it is h", x.ofParty(0, 4), 20 + 60 + 20);
    }

    private static void loose() {
        PailSpeech x = new PailSpeech();
        Due.is("n", x.loose(0), Due.BEYOND);
        Due.is("n", x.loose(301), Due.BEYOND);
        x.party(0, 99);
        x.party(0, 99);
        x.party(0, 99);
        x.party(0, 99);
        for (int p = 0; p < 4; p++) {
            x.fetch(p, 3);
        }
        int z = 1;
        int[] water = {3, 3, 3, 3};
        for (int i = 0; i < 5; i++) {
            z = z * 1103515245 + 12345;
            int p = (z >>> 8) % 4;
            z = z * 1103515245 + 12345;
            water[p] = Math.max(0, water[p] - (z >>> 8) % 6);
        }
        Due.is("not on the FLOOR", x.loose(5), 0);
        for (int p = 0; p < 4; p++) {
            Due.is("WATER of " + p, x.ofParty(p, 3), water[p]);
        }
        Due.is("z", x.count(11), z);
        Due.is("SECOND", x.count(2), 5);

        PailSpeech none = new PailSpeech();
        none.loose(5);
        Due.is("both draws without PARTIES", none.count(11), z);

        PailSpeech stopped = new PailSpeech();
        for (int p = 0; p < 4; p++) {
            stopped.party(0, 99);
            stopped.fetch(p, 3);
        }
        stopped.thumb(1);
        stopped.loose(5);
        for (int p = 0; p < 4; p++) {
            Due.is("drops are lost by THUMB, too", stopped.ofParty(p, 3), water[p]);
        }
    }

    private static void ahead() {
        PailSpeech x = new PailSpeech();
        Due.is("no party", x.then(0, 0, 0), Due.BEYOND);
        x.party(14, 99);
        x.party(0, 99);
        x.fetch(0, 40);
        x.word(0, 3, 6, -1);
        x.say(0);
        Due.is("n", x.then(-1, 0, 0), Due.BEYOND);
        Due.is("n", x.then(301, 0, 0), Due.BEYOND);
        Due.is("what", x.then(0, 0, -1), Due.BEYOND);
        Due.is("what", x.then(0, 0, 4), Due.BEYOND);
        Due.is("party", x.then(0, 2, 0), Due.BEYOND);
        Due.is("party, for FLOOR too", x.then(0, 2, 2), Due.BEYOND);
        Due.is("0 SECONDS", x.then(0, 0, 0), 40);
        Due.is("2 SECONDS", x.then(2, 0, 0), 22);
        Due.is("IN HAND", x.then(2, 0, 3), 0);
        Due.is("HEARD", x.then(2, 0, 1), 0);
        Due.is("3 SECONDS", x.then(3, 0, 3), -1);
        Due.is("HEARD", x.then(3, 0, 1), 6);
        Due.is("5 SECONDS", x.then(5, 0, 0), 9);
        Due.is("FLOOR", x.then(5, 0, 2), 31);
        Due.is("300 SECONDS", x.then(300, 0, 2), 40);
        Due.is("another one", x.then(300, 1, 0), 0);
        Due.is("nothing changed", x.count(2), 0);
        Due.is("nothing changed", x.ofParty(0, 3), 40);
        Due.is("nothing changed", x.count(6), 3);
        x.thumb(1);
        Due.is("THUMB", x.then(300, 0, 2), 0);
    }

    private static void lateSeconds() {
        PailSpeech x = new PailSpeech();
        x.party(30, 99);
        for (int i = 0; i < 333; i++) {
            x.seconds(300);
        }
        Due.is("SECOND", x.count(2), 99900);
        x.fetch(0, 99);
        Due.is("above", x.seconds(100), Due.STATE);
        Due.is("above, loose", x.loose(100), Due.STATE);
        Due.is("BEYOND ahead of STATE", x.seconds(301), Due.BEYOND);
        Due.is("not above", x.seconds(90), 90);
        x.image();
        Due.is("not above, loose", x.loose(9) >= 90 ? 1 : 0, 1);
        x.restore();
        Due.is("just not above", x.seconds(9), 99);
        Due.is("SECOND", x.count(2), 99999);
        Due.is("above", x.seconds(1), Due.STATE);
        Due.is("above, loose", x.loose(1), Due.STATE);
        x.fetch(0, 99);
        int floor = x.count(3);
        Due.is("AHEAD goes on", x.then(7, 0, 2), floor + 7);
    }
}
