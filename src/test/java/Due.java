import java.nio.charset.StandardCharsets;

/** Compares answers with those that are due, and brings texts onto a tape. */
final class Due {
    static final int NONE = RiverRanks.NONE;

    private int calls;
    private int wrong;

    void due(String what, long got, long want) {
        calls++;
        if (got != want) {
            wrong++;
            if (wrong <= 40) {
                System.out.println(what + " answered " + got + ", due is " + want);
            }
        }
    }

    void due(String what, boolean got, boolean want) {
        due(what, got ? 1 : 0, want ? 1 : 0);
    }

    boolean isWrong() {
        return wrong > 0;
    }

    /** Prints how it went and ends the program with 1 if an answer was not as due. */
    void close(String name) {
        System.out.println(name + ": " + calls + " answers, " + wrong + " not as due");
        if (wrong > 0 || calls == 0) {
            System.exit(1);
        }
    }

    /** Puts bytes on an empty tape. */
    static void tape(RiverRanks x, int... bytes) {
        x.end(0);
        int[] n = new int[5];
        for (int from = 0; from < bytes.length; from += 20) {
            for (int i = 0; i < 5; i++) {
                n[i] = 0;
                for (int k = 0; k < 4; k++) {
                    int at = from + 4 * i + k;
                    n[i] = n[i] << 8 | (at < bytes.length ? bytes[at] & 255 : 0);
                }
            }
            x.feed(n[0], n[1], n[2], n[3], n[4]);
        }
        x.end(bytes.length);
    }

    static void tape(RiverRanks x, String text) {
        byte[] bytes = text.getBytes(StandardCharsets.ISO_8859_1);
        int[] numbers = new int[bytes.length];
        for (int i = 0; i < bytes.length; i++) {
            numbers[i] = bytes[i];
        }
        tape(x, numbers);
    }

    static int net(RiverRanks x, String text) {
        tape(x, text);
        return x.net();
    }

    /** An object whose net is as the text tells. */
    static RiverRanks of(String text) {
        RiverRanks x = new RiverRanks();
        if (net(x, text) == NONE) {
            System.out.println("a fault " + x.fault(0) + " at " + x.fault(1) + " in: " + text);
            System.exit(1);
        }
        return x;
    }

    /** A net told shortly: "abc a>b5 b>c7+3=x" is places a, b, c, reaches with length, yield, river. */
    static RiverRanks rivers(String told) {
        return of(text(told));
    }

    static String text(String told) {
        String[] parts = told.trim().split(" +");
        StringBuilder text = new StringBuilder("places ");
        for (int i = 0; i < parts[0].length(); i++) {
            text.append(i == 0 ? "" : ",").append(parts[0].charAt(i));
        }
        text.append(';');
        for (int i = 1; i < parts.length; i++) {
            String p = parts[i];
            text.append("reach ").append(p.charAt(0)).append(" to ").append(p.charAt(2)).append(" long ");
            text.append(p.substring(3).replace("+", " yields ").replace("=", " called ")).append(';');
        }
        return text.toString();
    }

    static int bits(int... places) {
        int bits = 0;
        for (int p : places) {
            bits |= 1 << p;
        }
        return bits;
    }
}
