import java.lang.reflect.Field;

/**
 * FLOOR counts up to 999999, HEARD up to 99999: 512 calls don't come so far, so these two are set inside the object,
 * by the names of its fields.
 */
public final class InsideTest {
    public static void main(String[] args) throws ReflectiveOperationException {
        floorBySeconds();
        floorByObject();
        floorAhead();
        heard();
        heardAhead();
        heardOfBest();
        Due.end();
    }

    private static Object inside(Object of, String name) throws ReflectiveOperationException {
        Field field = of.getClass().getDeclaredField(name);
        field.setAccessible(true);
        return field.get(of);
    }

    private static void setFloor(PailSpeech x, int drops) throws ReflectiveOperationException {
        Object flow = inside(inside(x, "now"), "flow");
        Field floor = flow.getClass().getDeclaredField("floor");
        floor.setAccessible(true);
        floor.setInt(flow, drops);
        Due.is("FLOOR is set", x.count(3), drops);
    }

    private static void setHeard(PailSpeech x, int party, int v) throws ReflectiveOperationException {
        ((int[]) inside(inside(inside(x, "now"), "flow"), "heard"))[party] = v;
        Due.is("HEARD is set", x.ofParty(party, 4), v);
    }

    /** Term 1: no more than 999999 are counted. */
    private static void floorBySeconds() throws ReflectiveOperationException {
        int[] from = {999993, 999994, 999995, 999998, 999999};
        int[] due = {999998, 999999, 999999, 999999, 999999};
        for (int i = 0; i < from.length; i++) {
            PailSpeech x = Courts.alike(1, 0);
            x.word(0, 9, 1, -1);
            x.say(0);
            setFloor(x, from[i]);
            Due.is("a SECOND from " + from[i], x.seconds(1), due[i]);
            Due.is("WATER is gone all the same", x.ofParty(0, 3), 994);
            Due.is("300 SECONDS", x.seconds(300), 999999);
            Due.is("FLOOR", x.count(3), 999999);
            Due.is("SAID all the same", x.ofWord(0, 4), 1);
            setFloor(x, from[i]);
            x.become(0, 49);
            Due.is("LOOSE, from " + from[i], x.loose(1), due[i]);
        }
    }

    private static void floorByObject() throws ReflectiveOperationException {
        int[] from = {999969, 999970, 999971, 999989, 999999};
        for (int f : from) {
            PailSpeech x = Courts.alike(2, 0);
            x.word(0, 9, 1, -1);
            x.say(0);
            setFloor(x, f);
            Due.is("30 drops from " + f, x.object(1, 10), 979);
            Due.is("FLOOR from " + f, x.count(3), Math.min(999999, f + 30));
            Due.is("one's own", x.ofParty(1, 3), 989);
        }
    }

    private static void floorAhead() throws ReflectiveOperationException {
        PailSpeech x = Courts.alike(1, 49);
        setFloor(x, 999990);
        Due.is("AHEAD by 1", x.then(1, 0, 2), 999995);
        Due.is("AHEAD by 2", x.then(2, 0, 2), 999999);
        Due.is("AHEAD by 300", x.then(300, 0, 2), 999999);
        x.sheet(0, 32, 3);
        int[] floor = {999995, 999999, 999999};
        for (int i = 0; i < 3; i++) {
            x.put(0, i, floor[i]);
            x.tell(floor[i]);
        }
        Due.is("explained", x.explained(0, 0), 8);
        Due.is("check", x.check(), 0);
        x.tell(999995);
        x.tell(1000000);
        Due.is("check", x.check(), 2);
        x.image();
        x.seconds(9);
        x.restore();
        Due.is("an IMAGE", x.count(3), 999990);
    }

    /** Term 1: HEARD is 99999 at most. */
    private static void heard() throws ReflectiveOperationException {
        int[] from = {99989, 99990, 99998, 99999};
        int[] due = {99998, 99999, 99999, 99999};
        for (int i = 0; i < from.length; i++) {
            PailSpeech x = Courts.alike(2, 0);
            x.word(0, 1, 9, -1);
            setHeard(x, 0, from[i]);
            x.say(0);
            x.seconds(1);
            Due.is("9 from " + from[i], x.ofParty(0, 4), due[i]);
            Due.is("SAID all the same", x.ofWord(0, 4), 1);
            Due.is("the other one's", x.ofParty(1, 4), 0);
        }
    }

    private static void heardAhead() throws ReflectiveOperationException {
        PailSpeech x = Courts.alike(2, 0);
        x.word(0, 1, 9, -1);
        x.word(1, 1, 4, -1);
        setHeard(x, 0, 99993);
        setHeard(x, 1, 99998);
        Due.is("GAME by growth", x.game(0, 1, 1, 0), 6);
        Due.is("GAME by growth", x.game(0, 1, 2, 0), 5);
        Due.is("GAME by growth", x.game(1, 0, 1, 0), 1);
        x.say(0);
        Due.is("AHEAD by 1", x.then(1, 0, 1), 99999);
        Due.is("AHEAD by 0", x.then(0, 0, 1), 99993);
    }

    /** Term 3: in a SPEECH HEARD and what came ahead aren't held. */
    private static void heardOfBest() throws ReflectiveOperationException {
        PailSpeech x = Courts.alike(1, 0);
        for (int w = 0; w < 3; w++) {
            x.word(0, 1, 1, -1);
        }
        Due.read(x, 0, "h-9999*10");
        setHeard(x, 0, 99998);
        Due.is("8, 16, 32", x.best(1, -2), 56);
        setHeard(x, 0, 99999);
        Due.is("9, 18, 36", x.best(1, -2), 63);
        Due.is("SHARE", x.share(0, 0), 63);
    }
}
