import java.util.TreeSet;

/** What the tests share: counting answers that are not due, and writing texts onto a tape. */
final class Check {
    /** A call, as a test hands it on; a boolean counts 1 or 0. */
    interface Call {
        long on(BallotRing x);
    }

    /** A call of one number. */
    interface CallOf {
        long on(BallotRing x, int number);
    }

    private int wrong;
    private int right;

    void due(String call, long got, long want) {
        if (got == want) {
            right++;
        } else {
            wrong++;
            System.out.println(call + " answered " + got + ", due is " + want);
        }
    }

    void due(String call, boolean got, boolean want) {
        due(call, got ? 1 : 0, want ? 1 : 0);
    }

    void due(String call, String got, String want) {
        if (got.equals(want)) {
            right++;
        } else {
            wrong++;
            System.out.println(call + " answered\n  " + got + "\ndue is\n  " + want);
        }
    }

    /** Puts a text on the tape in place of what is there, as README.md shows it. */
    static void write(BallotRing ring, String text) {
        ring.end(0);
        for (int n = 0; n < text.length(); n += 20) {
            ring.feed(four(text, n), four(text, n + 4), four(text, n + 8), four(text, n + 12), four(text, n + 16));
        }
        ring.end(text.length());
    }

    static int four(String text, int from) {
        int number = 0;
        for (int i = from; i < from + 4; i++) {
            number = number << 8 | (i < text.length() ? text.charAt(i) & 255 : ' ');
        }
        return number;
    }

    static int roll(BallotRing x, String text) {
        write(x, text);
        return x.roll();
    }

    static int reword(BallotRing x, int voter, String text) {
        write(x, text);
        return x.reword(voter);
    }

    /** A new object with a roll that must stand. */
    BallotRing ring(String text) {
        BallotRing x = new BallotRing();
        roll(x, text);
        due("fault(0) of " + text, x.fault(0), 0);
        return x;
    }

    /** A roll with a FAULT, whose place is marked by @. */
    void fault(int which, String marked) {
        BallotRing x = new BallotRing();
        due("roll() of " + marked, roll(x, marked.replace("@", "")), -1);
        due("fault(0) of " + marked, x.fault(0), which);
        due("fault(1) of " + marked, x.fault(1), marked.indexOf('@'));
        due("about(6) of " + marked, x.about(6), 0);
    }

    /** A roll that stands, with so many voters. */
    void stands(int voters, String text) {
        BallotRing x = new BallotRing();
        due("roll() of " + text, roll(x, text), voters);
        due("fault(0) of " + text, x.fault(0), 0);
        due("fault(1) of " + text, x.fault(1), -1);
        due("about(6) of " + text, x.about(6), 0);
    }

    /** Numbers below 0, and from count on: next to the bounds, far off, and such as are in if bits fall off them. */
    static int[] outOf(int count) {
        TreeSet<Integer> all = new TreeSet<>();
        for (int far : new int[] {0, count, 32, 64, 256, 1 << 16, Integer.MIN_VALUE}) {
            for (int near = -1; near <= 1; near++) {
                all.add(far + near);
                all.add(-far + near);
            }
        }
        return all.stream().mapToInt(i -> i).filter(i -> i < 0 || i >= count).toArray();
    }

    /** What a call answers of each number that is out. */
    void allOut(String call, BallotRing x, int count, CallOf of, long want) {
        for (int out : outOf(count)) {
            due(call + " of " + out, of.on(x, out), want);
        }
    }

    /** All that can be asked of a small town without changing anything, but for its tape and fault. */
    static String seen(BallotRing x) {
        StringBuilder all = new StringBuilder("about");
        for (int what = 0; what < 8; what++) {
            put(all, what == 6 ? 0 : x.about(what));
        }
        int voters = x.about(2);
        for (int v = 0; v < voters; v++) {
            put(put(put(put(all.append("; voter"), x.has(v)), x.says(v)), x.looks(v)), x.part(v));
        }
        put(put(all.append("; countings"), x.countings()), x.telling());
        for (int i = 0; i < Math.min(4, x.countings()); i++) {
            put(all.append(";"), x.chosen(i));
            for (int v = 0; v < voters; v++) {
                put(all, x.counting(i, v));
            }
        }
        put(put(put(all.append("; judge"), x.judge()), x.soonest(0)), x.soonest(1));
        for (int name = 0; name < x.about(0); name++) {
            put(put(put(all.append("; name"), x.wins(name)), x.sway(name, 1)), x.sway(name, 2));
        }
        for (int k = 0; k < 5; k++) {
            put(all.append("; left"), x.left(k));
            for (int v = 0; v < voters; v++) {
                put(all, x.sure(v, k));
            }
        }
        return all.toString();
    }

    private static StringBuilder put(StringBuilder all, int answer) {
        return all.append(' ').append(answer);
    }

    void close(String name) {
        System.out.println(name + ": " + right + " answers as due, " + wrong + " not");
        if (wrong != 0) {
            System.exit(1);
        }
    }
}
