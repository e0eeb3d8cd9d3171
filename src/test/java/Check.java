/** What all tests use: a count of wrong answers, and a way to put a text on the tape. */
final class Check {
    private int wrong = 0;
    private int calls = 0;

    void due(String call, long got, long want) {
        calls++;
        if (got != want) {
            wrong++;
            if (wrong <= 40) {
                System.out.println(call + " answered " + got + ", due is " + want);
            }
        }
    }

    void due(String call, boolean got, boolean want) {
        due(call, got ? 1 : 0, want ? 1 : 0);
    }

    /** Ends the test: exit code 1 if an answer was wrong. */
    void end() {
        System.out.println(calls + " answers, " + wrong + " wrong");
        if (wrong > 0) {
            System.exit(1);
        }
    }

    static int number(byte[] bytes, int at) {
        int number = 0;
        for (int i = at; i < at + 4; i++) {
            number = number << 8 | (i < bytes.length ? bytes[i] & 255 : 32);
        }
        return number;
    }

    static byte[] bytesOf(String text) {
        return text.getBytes(java.nio.charset.StandardCharsets.ISO_8859_1);
    }

    /** Puts the text on an empty tape. */
    static void put(ShelfDrives x, String text) {
        byte[] bytes = bytesOf(text);
        for (int at = 0; at < bytes.length; at += 20) {
            x.feed(number(bytes, at), number(bytes, at + 4), number(bytes, at + 8), number(bytes, at + 12),
                number(bytes, at + 16));
        }
        x.end(bytes.length);
    }

    static int read(ShelfDrives x, String text) {
        put(x, text);
        return x.text();
    }

    static ShelfDrives of(String text) {
        ShelfDrives x = new ShelfDrives();
        read(x, text);
        return x;
    }
}
