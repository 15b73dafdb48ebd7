import java.util.ArrayList;
import java.util.Arrays;
import java.util.List;

/**
 * Compares two ways to make an object by all that can be seen of it. The object is made anew for each look, so a look
 * may use it up.
 */
final class Look {
    interface Court {
        PailSpeech made();
    }

    interface Call {
        long on(PailSpeech x);
    }

    private interface Eye {
        void see(PailSpeech x, List<Long> seen);
    }

    private static final List<Eye> STATE = Arrays.asList(Look::people, Look::flow, Look::laws, Look::tape,
        Look::waiting, Look::image, Look::draws);
    private static final List<Eye> REST = Arrays.asList(Look::trace, Look::sheets, Look::numbers, Look::images);

    private Look() {
    }

    /** The call answers this ERROR, is counted by told(), and nothing else has changed. */
    static void refused(String call, Court court, int error, Call asked) {
        Due.is(call, asked.on(court.made()), error);
        same(call + " is refused", court, after(court, asked));
        told(call, court, after(court, asked), -1000000000 - error);
    }

    /** The call gives this answer, and nothing has changed, what told() tells neither. */
    static void quiet(String call, Court court, long answer, Call asked) {
        Due.is(call, asked.on(court.made()), answer);
        same(call + " changes nothing", court, after(court, asked));
        told(call, court, after(court, asked), 0);
    }

    /** Whatever the call answers, nothing has changed; asked again it answers the same. */
    static void quiet(String call, Court court, Call asked) {
        PailSpeech x = court.made();
        long answer = asked.on(x);
        Due.is(call + ", again", asked.on(x), answer);
        quiet(call, court, answer, asked);
    }

    static Court after(Court court, Call asked) {
        return () -> {
            PailSpeech x = court.made();
            asked.on(x);
            return x;
        };
    }

    /** Nothing but what told() tells may be unlike. */
    static void same(String what, Court one, Court other) {
        sameState(what, one, other);
        compare(what, REST, one, other);
    }

    /** What an IMAGE keeps may not be unlike. */
    static void sameState(String what, Court one, Court other) {
        compare(what, STATE, one, other);
    }

    private static void compare(String what, List<Eye> eyes, Court one, Court other) {
        for (int e = 0; e < eyes.size(); e++) {
            List<Long> due = new ArrayList<>();
            List<Long> got = new ArrayList<>();
            eyes.get(e).see(one.made(), due);
            eyes.get(e).see(other.made(), got);
            Due.is(what + ": look " + e + " at " + unlike(due, got), unlike(due, got), -1);
        }
    }

    private static int unlike(List<Long> due, List<Long> got) {
        for (int i = 0; i < Math.min(due.size(), got.size()); i++) {
            if (!due.get(i).equals(got.get(i))) {
                return i;
            }
        }
        return due.size() == got.size() ? -1 : Math.min(due.size(), got.size());
    }

    /** Behind the other way told() tells one more of kind k, of the others as many. */
    private static void told(String call, Court one, Court other, int k) {
        PailSpeech due = one.made();
        PailSpeech got = other.made();
        for (int i = 1; i <= 5; i++) {
            Due.is(call + ": told(" + i + ")", got.told(i), due.told(i) + (i == k ? 1 : 0));
        }
    }

    private static void people(PailSpeech x, List<Long> seen) {
        for (int what = 0; what <= 11; what++) {
            if (what != 10) {
                seen.add((long) x.count(what));
            }
        }
        for (int p = 0; p < 4; p++) {
            for (int what = 0; what <= 7; what++) {
                seen.add((long) x.ofParty(p, what));
            }
        }
        for (int w = 0; w < 12; w++) {
            for (int what = 0; what <= 4; what++) {
                seen.add((long) x.ofWord(w, what));
            }
        }
    }

    private static void flow(PailSpeech x, List<Long> seen) {
        for (int n = 0; n <= 10; n++) {
            for (int what = 0; what <= 3; what++) {
                for (int p = 0; p < x.count(0); p++) {
                    seen.add((long) x.then(n, p, what));
                }
            }
        }
    }

    private static void laws(PailSpeech x, List<Long> seen) {
        int[][] names = {{0, 0, 0}, {1, 2, 3}, {50, 7, 9}, {99, 30, 1000}, {999, 99, 9}};
        for (int[] n : names) {
            seen.add((long) x.law(0, n[0], n[1], n[2]));
            seen.add((long) x.law(1, n[0], n[1], n[2]));
        }
    }

    private static void tape(PailSpeech x, List<Long> seen) {
        seen.add((long) x.feed('+' | '2' << 8, 2));
        seen.add((long) x.text(0));
        seen.add((long) x.count(8));
        laws(x, seen);
    }

    private static void waiting(PailSpeech x, List<Long> seen) {
        seen.add((long) x.tell(x.then(x.count(9) + 1, 0, 2)));
        seen.add((long) x.check());
        seen.add((long) x.count(9));
    }

    private static void image(PailSpeech x, List<Long> seen) {
        seen.add((long) x.restore());
        people(x, seen);
        laws(x, seen);
        seen.add((long) x.check());
    }

    private static void draws(PailSpeech x, List<Long> seen) {
        seen.add((long) x.loose(3));
        seen.add((long) x.seconds(3));
        people(x, seen);
    }

    private static void trace(PailSpeech x, List<Long> seen) {
        seen.add((long) x.count(10));
        for (int i = 0; i < x.count(10); i++) {
            seen.add((long) x.trace(i));
        }
    }

    /** How many numbers each SHEET has, and which are of like bits. */
    private static void sheets(PailSpeech x, List<Long> seen) {
        for (int s = 0; s < 4; s++) {
            for (int i = 0; i <= 6; i++) {
                seen.add((long) x.move(s, i, s, i, 0));
            }
            for (int o = 0; o < 4; o++) {
                seen.add((long) x.move(s, 0, o, 0, 0));
            }
        }
    }

    private static void numbers(PailSpeech x, List<Long> seen) {
        x.stop();
        for (int s = 0; s < 4; s++) {
            seen.add((long) x.judge(s));
            for (int p = 0; p < 4; p++) {
                seen.add((long) x.explained(p, s));
            }
        }
    }

    private static void images(PailSpeech x, List<Long> seen) {
        seen.add((long) x.image());
    }
}
