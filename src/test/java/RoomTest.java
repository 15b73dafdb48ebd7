import com.sun.management.ThreadMXBean;
import java.lang.management.ManagementFactory;

/** What the calls make is counted: the dearest ones, 512 of them, make nothing that stays or goes. */
public final class RoomTest {
    public static void main(String[] args) {
        ThreadMXBean threads = (ThreadMXBean) ManagementFactory.getThreadMXBean();
        PailSpeech warm = new PailSpeech();
        use(warm, 10);
        PailSpeech x = new PailSpeech();
        long id = Thread.currentThread().getId();
        threads.getThreadAllocatedBytes(id);
        long before = threads.getThreadAllocatedBytes(id);
        use(x, 40);
        long made = threads.getThreadAllocatedBytes(id) - before;
        Due.is("bytes made beyond a few are 0 (" + made + ")", made < 20000 ? 0 : made, 0);
        Due.end();
    }

    private static void use(PailSpeech x, int rounds) {
        for (int p = 0; p < 4; p++) {
            x.party(11 * p, 999);
            x.fetch(p, 999);
        }
        for (int w = 0; w < 12; w++) {
            x.word(w % 4, 1 + w, 9 + w, w % 5 == 0 ? w - 1 : -1);
        }
        x.sheet(0, 32, 40);
        for (int i = 0; i < rounds; i++) {
            x.feed(0x77296C2D682B7728L, 8);
            x.text(i % 2);
            x.best(15, -2);
            x.share(1, 0);
            x.leaves();
            x.game(0, 1, 4, 0);
            x.odds(0, 1, 5, 0);
            x.carried(0, 9999, 1, 0);
            x.explained(0, 0);
            x.judge(0);
            x.voice(3, 3, 5);
            x.image();
            x.restore();
            x.loose(3);
        }
    }
}
