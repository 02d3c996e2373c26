/** Feeding texts, and counting answers that are not as due. */
final class Texts {
    private Texts() { }

    static int wrong = 0;

    static void due(String what, long got, long want) {
        if (got != want) {
            wrong++;
            if (wrong <= 40) {
                System.out.println(what + " answered " + got + ", due is " + want);
            }
        }
    }

    static void due(String what, boolean got, boolean want) {
        due(what, got ? 1 : 0, want ? 1 : 0);
    }

    static void finish(String name) {
        System.out.println(name + ": " + (wrong == 0 ? "all answers are as due" : wrong + " answers are not as due"));
        if (wrong != 0) {
            System.exit(1);
        }
    }

    static int[] ints(byte[] bytes, int from) {
        int[] five = new int[5];
        for (int i = 0; i < 20; i++) {
            int b = from + i < bytes.length ? bytes[from + i] & 255 : 0;
            five[i / 4] = five[i / 4] << 8 | b;
        }
        return five;
    }

    static byte[] bytes(String text) {
        return text.getBytes(java.nio.charset.StandardCharsets.ISO_8859_1);
    }

    /** The tape, empty so far, has this text then. */
    static void tape(FourSledge x, String text) {
        byte[] bytes = bytes(text);
        for (int i = 0; i < bytes.length; i += 20) {
            int[] f = ints(bytes, i);
            x.feed(f[0], f[1], f[2], f[3], f[4]);
        }
        x.end(bytes.length);
    }

    static int course(FourSledge x, String text) {
        tape(x, text);
        return x.course();
    }

    static int plan(FourSledge x, String text) {
        tape(x, text);
        return x.plan();
    }

    static int sentence(FourSledge x, String text) {
        tape(x, text);
        return x.sentence();
    }
}
