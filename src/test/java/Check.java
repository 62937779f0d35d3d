import java.nio.charset.StandardCharsets;

/** What the tests share: due answers are counted, texts are fed to the tape. */
final class Check {
    private int asked = 0;
    private int wrong = 0;

    void due(String what, long got, long want) {
        asked++;
        if (got != want) {
            wrong++;
            // What a promise asks for begins with its number.
            String promise = Character.isDigit(what.charAt(0)) ? "promise " : "";
            System.out.println(promise + what + " answered " + got + ", due is " + want);
        }
    }

    void due(String what, boolean got, boolean want) {
        due(what, got ? 1 : 0, want ? 1 : 0);
    }

    /** An answer together with the status behind it. */
    void due(IslandCall x, String what, long got, long want, int status) {
        due(what, got, want);
        due(what + " status()", x.status(), status);
    }

    void due(IslandCall x, String what, boolean got, boolean want, int status) {
        due(x, what, got ? 1 : 0, want ? 1 : 0, status);
    }

    void end() {
        System.out.println(asked + " answers, " + wrong + " of them wrong");
        if (wrong != 0) {
            System.exit(1);
        }
    }

    static int[] bytesOf(String text) {
        byte[] raw = text.getBytes(StandardCharsets.ISO_8859_1);
        int[] bytes = new int[raw.length];
        for (int i = 0; i < raw.length; i++) {
            bytes[i] = raw[i] & 255;
        }
        return bytes;
    }

    /** Feeds a text, filled up with bytes 0 to a multiple of twenty; tells its own length. */
    static int feed(IslandCall x, String text) {
        int[] bytes = bytesOf(text);
        for (int i = 0; i < bytes.length; i += 20) {
            x.feed(four(bytes, i), four(bytes, i + 4), four(bytes, i + 8), four(bytes, i + 12), four(bytes, i + 16));
        }
        return bytes.length;
    }

    static int four(int[] bytes, int at) {
        int value = 0;
        for (int i = at; i < at + 4; i++) {
            value = value << 8 | (i < bytes.length ? bytes[i] : 0);
        }
        return value;
    }

    static int boat(IslandCall x, String text) {
        return x.boat(feed(x, text));
    }

    static int years(IslandCall x, String text) {
        return x.years(feed(x, text));
    }

    static IslandCall withBoat(String text) {
        IslandCall x = new IslandCall();
        if (boat(x, text) < 0) {
            System.out.println("the test's own boat is not taken: " + text);
            System.exit(1);
        }
        return x;
    }
}
