/** Promises 28 to 40: draws, voices, sheets, images, what is told. */
public final class RestTest {
    public static void main(String[] args) {
        seed();
        voices();
        trace();
        sheet();
        move();
        judge();
        image();
        check();
        count();
        told();
        Due.end();
    }

    private static void seed() {
        PailSpeech x = new PailSpeech();
        Due.is("at first", x.seed(-1000000001), 1);
        Due.is("any number is no ERROR", x.seed(7), -1000000001);
        Due.is("not counted", x.told(1), 0);
        Due.is("z", x.count(11), 7);
        x.seconds(3);
        Due.is("only draws change z", x.count(11), 7);
    }

    private static void voice(int km, int act, int x, int due, int... bodies) {
        PailSpeech s = new PailSpeech();
        s.party(0, 9);
        s.party(0, 9);
        s.party(km, 9);
        String name = "voice of " + km + ", act " + act;
        Due.is(name, s.voice(2, act, x), due);
        Due.is(name + ": how many", s.count(10), bodies.length);
        for (int i = 0; i < bodies.length; i++) {
            Due.is(name + ": body " + i, s.trace(i), bodies[i]);
        }
        Due.is(name + ": no more", s.trace(bodies.length), Due.NONE);
    }

    private static void voices() {
        // The PARTY is number 2, and m is 3.
        voice(3, 0, 10, 12, 10);
        voice(3, 1, 10, 24, 11, 10);
        voice(3, 2, 10, 7, 12);
        voice(3, 3, 10, 24 ^ 7, 13, 11, 10, 12);
        voice(13, 0, 10, 12, 10);
        voice(13, 1, 10, 24 - (1 - 3), 20, 11, 10, 12);
        voice(13, 3, 10, 26 ^ 7, 13, 20, 11, 10, 12, 12);
        voice(23, 0, 10, 36, 30, 10);
        voice(23, 1, 10, 72, 11, 30, 10);
        voice(33, 1, 10, 24, 11, 10);
        voice(33, 2, 10, -7, 40, 12);
        voice(43, 1, 10, 26 + 2, 50, 20, 11, 10, 12);
        voice(43, 3, 10, 28 ^ 7, 13, 50, 20, 11, 10, 12, 12);
        voice(53, 0, 10, 36, 30, 10);
        voice(53, 3, 10, (72 ^ 7) - 12, 60, 13, 11, 30, 10, 12, 30, 10);
        voice(63, 2, 10, -7 ^ 2, 70, 40, 12);
        voice(63, 3, 10, 24 - (24 ^ (-7 ^ 2)), 71, 11, 10, 13, 11, 10, 70, 40, 12);
        voice(3, 0, Integer.MAX_VALUE, Integer.MIN_VALUE + 1, 10);
        voice(3, 1, 1 << 30, 4 + Integer.MIN_VALUE, 11, 10);
        voice(3, 2, Integer.MIN_VALUE, Integer.MAX_VALUE - 2, 12);
        voice(33, 2, Integer.MIN_VALUE + 3, Integer.MIN_VALUE, 40, 12);
    }

    private static void trace() {
        PailSpeech x = new PailSpeech();
        Due.is("party", x.voice(0, 0, 0), Due.BEYOND);
        x.party(0, 9);
        x.voice(0, 3, 1);
        Due.is("act", x.voice(0, 4, 0), Due.BEYOND);
        Due.is("act", x.voice(0, -1, 0), Due.BEYOND);
        Due.is("party", x.voice(-1, 0, 0), Due.BEYOND);
        Due.is("the latest that was one", x.count(10), 4);
        Due.is("i", x.trace(-1), Due.NONE);
        Due.is("i", x.trace(4), Due.NONE);
        Due.is("i", x.trace(Integer.MAX_VALUE), Due.NONE);
        Due.is("any number is no ERROR", x.voice(0, 0, -1000000002), -1000000002);
        Due.is("the latest alone", x.count(10), 1);
        Due.is("the latest alone", x.trace(0), 10);
        Due.is("NONE of trace alone", x.told(2), 3);
    }

    private static void sheet() {
        PailSpeech x = new PailSpeech();
        Due.is("sheet", x.sheet(4, 8, 1), Due.BEYOND);
        Due.is("sheet", x.sheet(-1, 8, 1), Due.BEYOND);
        Due.is("bits", x.sheet(0, 7, 1), Due.BEYOND);
        Due.is("bits", x.sheet(0, 64, -1), Due.BEYOND);
        Due.is("sheet ahead of n", x.sheet(4, 8, -1), Due.BEYOND);
        Due.is("n", x.sheet(0, 8, -1), Due.STATE);
        Due.is("n", x.sheet(0, 8, 41), Due.BEYOND);
        Due.is("none came to be", x.put(0, 0, 0), Due.NONE);
        Due.is("40", x.sheet(0, 16, 40), 1);
        Due.is("put sheet", x.put(4, 0, 0), Due.BEYOND);
        Due.is("put sheet", x.put(-1, 0, 0), Due.BEYOND);
        Due.is("put i", x.put(0, 40, 0), Due.BEYOND);
        Due.is("put i", x.put(0, -1, 0), Due.BEYOND);
        Due.is("put", x.put(0, 39, 5), 1);
        Due.is("an ERROR changes nothing", x.sheet(0, 16, -5), Due.STATE);
        Due.is("it stands", x.put(0, 39, 5), 1);
        Due.is("missing, n doesn't matter", x.sheet(0, 0, -5), 1);
        Due.is("missing", x.put(0, 0, 0), Due.NONE);
        Due.is("missing", x.judge(0), Due.NONE);
        Due.is("0 numbers", x.sheet(0, 32, 0), 1);
        Due.is("no such number", x.put(0, 0, 0), Due.BEYOND);
    }

    private static PailSpeech speaker() {
        PailSpeech x = new PailSpeech();
        x.party(0, 999);
        x.fetch(0, 999);
        for (int w = 0; w < 12; w++) {
            x.word(0, 1, 1, -1);
        }
        return x;
    }

    private static void move() {
        PailSpeech x = speaker();
        x.sheet(0, 8, 6);
        x.sheet(1, 16, 6);
        x.sheet(2, 8, 3);
        Due.is("sheet", x.move(4, 0, 0, 0, 1), Due.BEYOND);
        Due.is("other", x.move(0, 0, -1, 0, 1), Due.BEYOND);
        Due.is("other ahead of NONE", x.move(3, 0, 4, 0, 1), Due.BEYOND);
        Due.is("missing", x.move(3, 0, 0, 0, 1), Due.NONE);
        Due.is("missing", x.move(0, 0, 3, 0, 1), Due.NONE);
        Due.is("unlike bits", x.move(0, 0, 1, 0, 1), Due.KIND);
        Due.is("KIND ahead of BEYOND", x.move(0, -1, 1, 0, 1), Due.KIND);
        Due.is("n", x.move(0, 0, 2, 0, -1), Due.BEYOND);
        Due.is("i", x.move(0, -1, 2, 0, 1), Due.BEYOND);
        Due.is("j", x.move(0, 0, 2, -1, 1), Due.BEYOND);
        Due.is("they don't stand there", x.move(0, 5, 2, 0, 2), Due.BEYOND);
        Due.is("they don't stand there", x.move(0, 0, 2, 2, 2), Due.BEYOND);
        Due.is("far", x.move(0, Integer.MAX_VALUE, 2, 0, Integer.MAX_VALUE), Due.BEYOND);
        Due.is("far", x.move(0, 1, 2, 0, Integer.MAX_VALUE), Due.BEYOND);
        Due.is("none of them", x.move(0, 6, 2, 3, 0), 0);
        Due.is("none behind the end", x.move(0, 7, 2, 3, 0), Due.BEYOND);
        for (int i = 0; i < 6; i++) {
            x.put(0, i, i);
        }
        Due.is("to another one", x.move(0, 3, 2, 0, 3), 3);
        Due.is("as they were", x.move(0, 0, 0, 1, 5), 5);
        Due.is("to the same", x.judge(2), 3);
        int[] due = {0, 0, 1, 2, 3, 4};
        for (int i = 0; i < 6; i++) {
            Due.is("number " + i, same(x, 0, i, due[i]) ? due[i] : -1, due[i]);
        }
        Due.is("back", x.move(0, 2, 0, 0, 4), 4);
        int[] back = {1, 2, 3, 4, 3, 4};
        for (int i = 0; i < 6; i++) {
            Due.is("number " + i, same(x, 0, i, back[i]) ? back[i] : -1, back[i]);
        }
    }

    /** Whether a number of a SHEET is v: both said in a row are refused at the second alone then. */
    private static boolean same(PailSpeech x, int sheet, int i, int v) {
        x.sheet(3, 8, 2);
        x.move(sheet, i, 3, 0, 1);
        x.put(3, 1, v);
        return x.judge(3) == 1;
    }

    private static void judge() {
        PailSpeech x = new PailSpeech();
        x.party(0, 99);
        x.party(14, 99);
        x.fetch(0, 40);
        x.fetch(1, 99);
        x.word(0, 3, 1, -1);
        x.word(1, 2, 1, 0);
        x.word(0, 5, 1, 1);
        x.word(0, 6, 1, -1);
        Due.is("sheet", x.judge(4), Due.BEYOND);
        Due.is("sheet", x.judge(-1), Due.BEYOND);
        Due.is("missing", x.judge(0), Due.NONE);
        x.sheet(0, 32, 0);
        Due.is("none", x.judge(0), 0);
        x.sheet(0, 32, 3);
        for (int i = 0; i < 3; i++) {
            x.put(0, i, i);
        }
        Due.is("all", x.judge(0), 3);
        Due.is("THUMB", x.thumb(1), 0);
        Due.is("as if THUMB were 0", x.judge(0), 3);
        Due.is("THUMB stays", x.thumb(0), 1);
        x.put(0, 2, 3);
        Due.is("CUT", x.judge(0), 2);
        x.put(0, 1, 2);
        Due.is("refused: BEHIND", x.judge(0), 1);
        x.put(0, 1, 0);
        Due.is("refused: SAID", x.judge(0), 1);
        x.put(0, 1, 4);
        Due.is("refused: no WORD", x.judge(0), 1);
        x.put(0, 1, -1);
        Due.is("refused: no WORD", x.judge(0), 1);
        Due.is("nothing changed", x.count(2) + x.count(3), 0);
        Due.is("no ERROR of say()", x.told(3) + x.told(1), 2);
        x.say(3);
        Due.is("refused: one is IN HAND", x.judge(0), 0);
        x.stop();
        x.sheet(1, 8, 1);
        x.put(1, 0, 256);
        Due.is("the lowest bits of 8", x.judge(1), 1);
        x.sheet(1, 16, 1);
        x.put(1, 0, 65536);
        Due.is("the lowest bits of 16", x.judge(1), 1);
        x.put(1, 0, 256);
        Due.is("256 has 9 bits", x.judge(1), 0);
        x.sheet(1, 32, 1);
        x.put(1, 0, 65536);
        Due.is("65536 has 17 bits", x.judge(1), 0);
        Due.is("a new one is all 0", x.sheet(1, 32, 1), 1);
        Due.is("a new one is all 0", x.judge(1), 1);
    }

    private static void image() {
        PailSpeech x = new PailSpeech();
        x.party(12, 50);
        x.fetch(0, 30);
        x.word(0, 2, 5, -1);
        x.word(0, 2, 5, -1);
        Due.read(x, 0, "w+1");
        Due.read(x, 1, "l/2");
        x.feed('w', 1);
        x.tell(7);
        x.seed(99);
        x.seconds(1);
        x.say(0);
        x.thumb(1);
        Due.is("first", x.image(), 1);
        x.thumb(0);
        x.seconds(2);
        x.become(0, 39);
        x.party(0, 9);
        x.word(1, 3, 3, 0);
        x.set(1, 1, 9);
        x.pour(0, 1, 5);
        Due.read(x, 0, "7");
        Due.read(x, 1, "9");
        x.feed('7', 1);
        x.feed('7', 1);
        x.check();
        x.tell(29);
        x.tell(29);
        x.set(1, 2, 77);
        x.loose(3);
        x.voice(1, 3, 1);
        x.sheet(0, 8, 1);
        Due.is("an ERROR", x.stop(), Due.NONE);
        Due.is("SECOND", x.restore(), 1);
        int[] due = {1, 2, 1, 1, 1, 0, 2, 29, 1, 1, 4, 99};
        for (int what = 0; what < due.length; what++) {
            Due.is("count(" + what + ")", x.count(what), due[what]);
        }
        Due.is("KIND", x.ofParty(0, 0), 1);
        Due.is("m", x.ofParty(0, 1), 2);
        Due.is("HEARD", x.ofParty(0, 4), 0);
        Due.is("LONG", x.ofWord(1, 1), 2);
        Due.is("WORTH", x.ofWord(1, 2), 5);
        Due.is("UNSAID", x.ofWord(0, 4), 0);
        Due.is("EAR", x.law(0, 5, 0, 0), 6);
        Due.is("SPILL", x.law(1, 30, 0, 0), 15);
        Due.is("THE TAPE", x.text(0), 1);
        Due.is("THE TAPE", x.law(0, 5, 0, 0), 5);
        x.thumb(0);
        Due.is("FLOOR AHEAD", x.then(1, 0, 2), 8);
        Due.is("what waits", x.check(), 1);
        x.restore();
        x.become(0, 11);
        x.thumb(0);
        Due.is("what waits", x.check(), 0);
        Due.is("SHEETS stay", x.put(0, 0, 1), 1);
        Due.is("THE TRACE stays", x.trace(0), 13);
        Due.is("told() stays", x.told(2), 1);
        Due.is("the IMAGE stays", x.restore(), 1);
        Due.is("the IMAGE stays", x.law(0, 5, 0, 0), 6);
        Due.is("how often", x.image(), 2);
        Due.is("the second PARTY is new", x.party(0, 9), 1);
        Due.is("its WATER", x.ofParty(1, 3), 0);
        Due.is("in place of the one ahead", x.image(), 3);
        x.become(1, 60);
        x.restore();
        Due.is("in place of the one ahead", x.ofParty(1, 0), 0);
    }

    private static void check() {
        PailSpeech x = new PailSpeech();
        Due.is("none wait", x.check(), 0);
        x.party(30, 5);
        x.fetch(0, 5);
        for (int i = 1; i <= 20; i++) {
            Due.is("how many", x.tell(Math.min(i, 5)), i);
        }
        Due.is("FULL", x.tell(5), Due.FULL);
        Due.is("they wait", x.count(9), 20);
        Due.is("all are so", x.check(), 0);
        Due.is("none wait then", x.count(9), 0);
        Due.is("nothing else changed", x.count(2) + x.count(3), 0);
        x.tell(1);
        x.tell(2);
        x.tell(4);
        x.tell(4);
        Due.is("1 and the place", x.check(), 3);
        Due.is("none wait then", x.count(9), 0);
        x.tell(0);
        Due.is("the first", x.check(), 1);
        x.thumb(1);
        x.tell(0);
        Due.is("THUMB", x.check(), 0);
    }

    private static void count() {
        PailSpeech x = new PailSpeech();
        Due.is("what", x.count(12), Due.BEYOND);
        Due.is("what", x.count(-1), Due.BEYOND);
        x.party(0, 50);
        x.party(0, 50);
        x.party(34, 50);
        x.fetch(0, 20);
        x.fetch(2, 30);
        x.word(0, 3, 1, -1);
        x.word(0, 3, 1, -1);
        x.say(1);
        x.seconds(1);
        x.feed(0, 5);
        x.tell(0);
        x.tell(0);
        x.voice(0, 1, 0);
        int[] due = {3, 2, 1, 6, 0, 1, 2, 44, 5, 2, 2, 1};
        for (int what = 0; what < due.length; what++) {
            Due.is("count(" + what + ")", x.count(what), due[what]);
        }
    }

    private static void told() {
        PailSpeech x = new PailSpeech();
        Due.is("k", x.told(0), Due.BEYOND);
        Due.is("k", x.told(6), Due.BEYOND);
        Due.is("k", x.told(-1), Due.BEYOND);
        Due.is("those were counted", x.told(1), 3);
        x.stop();
        x.leaves();
        Due.is("NONE", x.told(2), 2);
        x.sheet(0, 8, -1);
        Due.is("STATE", x.told(3), 1);
        for (int i = 0; i < 5; i++) {
            x.party(10, 50);
        }
        Due.is("FULL", x.told(4), 1);
        x.as(0, 2);
        Due.is("KIND", x.told(5), 1);
        x.share(0, 2);
        x.odds(0, 1, 17, 0);
        Due.is("in longs, too", x.told(1), 5);
        x.text(0);
        Due.is("a FAULT is no ERROR", x.told(1) + x.told(2), 7);
    }
}
