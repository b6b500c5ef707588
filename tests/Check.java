import java.nio.charset.StandardCharsets;

/** What the tests share: counting answers that are not due, and writing texts onto a tape. */
final class Check {
    private int wrong;
    private int right;

    void due(String call, long got, long want) {
        if (got == want) {
            right++;
        } else {
            wrong++;
            System.out.println(call + " answered " + got + ", due is " + want);
        }
    }

    void due(String call, boolean got, boolean want) {
        due(call, got ? 1 : 0, want ? 1 : 0);
    }

    /** Puts a text on the tape in place of what is there. */
    static void write(BallotRing x, String text) {
        byte[] bytes = text.getBytes(StandardCharsets.ISO_8859_1);
        x.end(0);
        for (int n = 0; n < bytes.length; n += 20) {
            int[] five = new int[5];
            for (int i = 0; i < 20; i++) {
                int b = n + i < bytes.length ? bytes[n + i] & 255 : ' ';
                five[i / 4] |= b << (24 - 8 * (i % 4));
            }
            x.feed(five[0], five[1], five[2], five[3], five[4]);
        }
        x.end(bytes.length);
    }

    static int roll(BallotRing x, String text) {
        write(x, text);
        return x.roll();
    }

    static int reword(BallotRing x, int voter, String text) {
        write(x, text);
        return x.reword(voter);
    }

    /** A new object with a roll that must stand. */
    BallotRing ring(String text) {
        BallotRing x = new BallotRing();
        roll(x, text);
        due("fault(0) of " + text, x.fault(0), 0);
        return x;
    }

    void close(String name) {
        System.out.println(name + ": " + right + " answers as due, " + wrong + " not");
        if (wrong != 0) {
            System.exit(1);
        }
    }
}
