/** Promises 18 to 20: texts. */
public final class TextsTest {
    public static void main(String[] args) {
        feed();
        values();
        faults();
        inPlace();
        laws();
        Due.end();
    }

    private static void feed() {
        PailSpeech x = new PailSpeech();
        Due.is("n", x.feed(0, 0), Due.BEYOND);
        Due.is("n", x.feed(0, 9), Due.BEYOND);
        Due.is("the lowest first", x.feed(0x7F312B77L, 3), 3);
        Due.is("w+1", x.text(0), 1);
        Due.is("w+1", x.law(0, 5, 0, 0), 6);
        for (int i = 1; i <= 6; i++) {
            Due.is("eight more", x.feed(-1L, 8), 8 * i);
        }
        Due.is("FULL", x.feed(0, 3), Due.FULL);
        Due.is("BEYOND ahead of FULL", x.feed(0, 9), Due.BEYOND);
        Due.is("just so many", x.feed(0, 2), 50);
        Due.is("FULL", x.feed(0, 1), Due.FULL);
        Due.is("bytes", x.count(8), 50);
        Due.is("text", x.text(2), Due.BEYOND);
        Due.is("text", x.text(-1), Due.BEYOND);
        Due.is("THE TAPE stays", x.count(8), 50);
        Due.is("byte 255", x.text(0), -10);
        Due.is("THE TAPE is empty", x.count(8), 0);
    }

    private static void value(String text, int a, int b, int c, int due) {
        PailSpeech x = new PailSpeech();
        Due.is("text " + text, Due.read(x, 0, text), 1);
        Due.is(text + " of " + a + ", " + b + ", " + c, x.law(0, a, b, c), due);
    }

    private static void values() {
        value("w", 7, 8, 9, 7);
        value("l", 7, 8, 9, 8);
        value("h", 7, 8, 9, 9);
        value("0042", 7, 8, 9, 42);
        value("9999", 7, 8, 9, 999);
        value("w-h", 7, 8, 9, 0);
        value("w-l-h", 90, 8, 9, 73);
        value("w/l/h", 90, 3, 4, 7);
        value("w+l*h", 7, 8, 9, 79);
        value("(w+l)*h", 7, 8, 9, 135);
        value("w%l", 7, 4, 9, 3);
        value("9+w%l", -7, 4, 9, 6);
        value("9+w/l", -7, 4, 9, 8);
        value("9+w/l", 7, 0, 9, 9);
        value("9+w%l", 7, 0, 9, 9);
        value("1<2", 0, 0, 0, 1);
        value("2<2", 0, 0, 0, 0);
        value("2=2", 0, 0, 0, 1);
        value("2>2", 0, 0, 0, 0);
        value("3>2", 0, 0, 0, 1);
        value("w<0", -1, 0, 0, 1);
        value("1+1=2", 0, 0, 0, 1);
        value("(1<2)<3", 0, 0, 0, 1);
        value("1<2&3<4", 0, 0, 0, 1);
        value("1|0&0", 0, 0, 0, 1);
        value("(1|0)&0", 0, 0, 0, 0);
        value("w&l", 7, 8, 0, 1);
        value("w|l", 0, 0, 0, 0);
        value("w|l", 0, -3, 0, 1);
        value("0<1|1", 0, 0, 0, 1);
        value("!w", 7, 0, 0, 0);
        value("!w", 0, 0, 0, 1);
        value("!!w", 7, 0, 0, 1);
        value("!w+5", 0, 0, 0, 6);
        value("!(w+5)", 0, 0, 0, 0);
        value("(((((w)))))", 7, 0, 0, 7);
        value("!(!(!w))+!!!!!w", 7, 0, 0, 0);
        value("w*l>0", Integer.MAX_VALUE, 2, 0, 0);
        value("w+1<0", Integer.MAX_VALUE, 2, 0, 1);
        value("w/l=w", Integer.MIN_VALUE, -1, 0, 1);
        value("w%l=0", Integer.MIN_VALUE, -1, 0, 1);
        value("0-w<0", Integer.MIN_VALUE, -1, 0, 1);
        StringBuilder most = new StringBuilder("1");
        while (most.length() < 49) {
            most.append("+1");
        }
        value(most.toString() + "0", 0, 0, 0, 34);
    }

    private static void fault(String text, int due) {
        PailSpeech x = new PailSpeech();
        Due.is("FAULT of " + text, Due.read(x, 0, text), -10 - due);
        Due.is("THE TAPE is empty", x.count(8), 0);
        Due.is("no ERROR", x.told(1) + x.told(2) + x.told(3) + x.told(4) + x.told(5), 0);
    }

    private static void faults() {
        fault("", 0);
        fault(" w", 0);
        fault("w ", 1);
        fault("m", 0);
        fault("w+", 2);
        fault("w+s", 2);
        fault("12345", 4);
        fault("w1", 1);
        fault("1w", 1);
        fault("ww", 1);
        fault("1<2<3", 3);
        fault("1<2=3", 3);
        fault("(1<2<3)", 4);
        fault("-1", 0);
        fault("1--1", 2);
        fault(")", 0);
        fault("w)", 1);
        fault("()", 1);
        fault("(w", 2);
        fault("(w(", 2);
        fault("((((((w", 5);
        fault("!!!!!!w", 5);
        fault("!(!(!!w", 5);
        fault("(((((", 5);
        fault("!!!!!", 5);
        fault("!", 1);
        fault("w!", 1);
        fault("w||l", 2);
        fault("w&", 2);
        fault("w/\u00f7", 2);
        fault("W", 0);
        fault("w\0", 1);
        StringBuilder full = new StringBuilder();
        while (full.length() < 50) {
            full.append("w+");
        }
        fault(full.toString(), 50);
    }

    private static void inPlace() {
        PailSpeech x = new PailSpeech();
        Due.read(x, 0, "w+1");
        Due.read(x, 1, "l-m");
        Due.is("a FAULT", Due.read(x, 0, "w+"), -12);
        Due.is("the one ahead stays", x.law(0, 5, 0, 0), 6);
        Due.is("SPILL has names of its own", Due.read(x, 1, "w"), -10);
        Due.is("the one ahead stays", x.law(1, 5, 0, 2), 3);
        Due.is("in place", Due.read(x, 0, "w+2"), 1);
        Due.is("the new one", x.law(0, 5, 0, 0), 7);
        Due.is("the other USE", x.law(1, 5, 0, 2), 3);
        Due.is("s", Due.read(x, 1, "s"), 1);
        Due.is("s", x.law(1, 50, 4, 9), 4);
    }

    private static void laws() {
        PailSpeech x = new PailSpeech();
        Due.is("use", x.law(2, 0, 0, 0), Due.BEYOND);
        Due.is("use", x.law(-1, 0, 0, 0), Due.BEYOND);
        Due.is("a of SPILL", x.law(1, -1, 0, 0), Due.BEYOND);
        Due.is("a of SPILL", x.law(1, 1000, 0, 0), Due.BEYOND);
        Due.is("w without a TEXT", x.law(0, 99, 5, 5), 99);
        Due.is("held", x.law(0, 1000, 5, 5), 999);
        Due.is("held", x.law(0, -1, 5, 5), 0);
        Due.is("l*m/50 without a TEXT", x.law(1, 99, 5, 9), 17);
        Due.is("held to the load", x.law(1, 99, 5, 51), 99);
        Due.is("held", x.law(1, 99, 5, -9), 0);
        Due.is("the highest load", x.law(1, 999, 0, 1), 19);
        Due.is("no load", x.law(1, 0, 0, 9), 0);
        Due.read(x, 1, "l+1");
        Due.is("held to the load", x.law(1, 99, 5, 9), 99);
        Due.read(x, 1, "0-1");
        Due.is("held", x.law(1, 99, 5, 9), 0);
    }
}
