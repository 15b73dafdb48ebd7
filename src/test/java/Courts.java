/** Objects in states from which the tests of the edges start; each is made anew. */
final class Courts {
    private Courts() {
    }

    static PailSpeech empty() {
        return new PailSpeech();
    }

    /**
     * Three PARTIES, nine WORDS, something in every place, nothing IN HAND. WORD 0 is SAID, 1 is CUT, 2 and 3
     * stand behind the SAID one, 4 behind the CUT one, 6 behind 5, which is UNSAID.
     */
    static PailSpeech quiet() {
        PailSpeech x = new PailSpeech();
        x.party(12, 200);
        x.party(0, 150);
        x.party(45, 300);
        x.fetch(0, 180);
        x.fetch(1, 120);
        x.fetch(2, 250);
        x.word(0, 2, 10, -1);
        x.word(1, 3, 20, -1);
        x.word(0, 9, 30, 0);
        x.word(1, 2, 15, 0);
        x.word(2, 3, 40, 1);
        x.word(2, 1, 7, -1);
        x.word(1, 4, 50, 5);
        x.word(0, 1, 3, -1);
        x.word(2, 2, 60, -1);
        Due.read(x, 0, "w+h/9");
        Due.read(x, 1, "l/4");
        x.feed('w', 1);
        x.tell(3);
        x.image();
        x.text(0);
        x.say(0);
        x.seconds(2);
        x.say(1);
        x.seconds(1);
        x.stop();
        Due.read(x, 0, "w+l+h/9");
        Due.read(x, 1, "l*m/40+s");
        x.seed(77);
        x.loose(2);
        sheets(x);
        x.voice(2, 3, 5);
        x.party(99, 1);
        x.trace(40);
        x.set(0, 1, 5);
        x.as(0, 2);
        x.feed('l' | '+' << 8 | '1' << 16, 3);
        foretell(x, 3);
        return x;
    }

    /** SHEETS 0 (8 bits), 1 (16 bits), 2 (32 bits) of WORDS; 3 is missing. */
    private static void sheets(PailSpeech x) {
        int[][] rows = {{7, 3, 5, 8}, {5, 6}, {3, 7, 8, 2, 5}};
        for (int s = 0; s < rows.length; s++) {
            x.sheet(s, 8 << s, rows[s].length);
            for (int i = 0; i < rows[s].length; i++) {
                x.put(s, i, rows[s][i]);
            }
        }
    }

    /** In place of the numbers that wait come those that check() asks for. */
    private static void foretell(PailSpeech x, int many) {
        x.check();
        for (int i = 1; i <= many; i++) {
            x.tell(x.then(i, 0, 2));
        }
    }

    /** As quiet(), but WORD 2 of PARTY 0 is IN HAND, with 7 of 9 seconds TO GO. */
    static PailSpeech rich() {
        PailSpeech x = quiet();
        x.say(2);
        x.seconds(2);
        foretell(x, 3);
        return x;
    }

    /** As rich(), with as many PARTIES, WORDS, bytes and numbers that wait as there may be. */
    static PailSpeech full() {
        PailSpeech x = rich();
        x.party(30, 80);
        x.fetch(3, 60);
        for (int w = 9; w < 12; w++) {
            x.word(3, w, w, w - 1);
        }
        x.feed('+' | '1' << 8, 1);
        for (int n = 4; n < 48; n += 4) {
            x.feed('1' | '+' << 8 | '1' << 16 | '+' << 24, 4);
        }
        x.feed('1' | '0' << 8, 2);
        foretell(x, 20);
        return x;
    }

    /** One PARTY with a WORD IN HAND at SECOND 99990, by 335 calls. */
    static PailSpeech late() {
        PailSpeech x = new PailSpeech();
        x.party(14, 900);
        x.fetch(0, 800);
        x.word(0, 20, 5, -1);
        x.say(0);
        x.thumb(1);
        for (int i = 0; i < 333; i++) {
            x.seconds(300);
        }
        x.seconds(90);
        x.thumb(0);
        return x;
    }

    /** PARTIES of one KIND and m, all with full PAILS of 999. */
    static PailSpeech alike(int many, int km) {
        PailSpeech x = new PailSpeech();
        for (int p = 0; p < many; p++) {
            x.party(km, 999);
            x.fetch(p, 999);
        }
        return x;
    }
}
