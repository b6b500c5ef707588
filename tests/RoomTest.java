import java.lang.management.ManagementFactory;

/** Long runs of the dearest calls keep far below the room that all calls of a run share. */
public final class RoomTest {
    private static final Check CHECK = new Check();
    private static final long ROOM_IN_BYTES = 4L * 7_300_000;
    private static final String ALL = "abcdefgh";

    public static void main(String[] args) {
        com.sun.management.ThreadMXBean bean = (com.sun.management.ThreadMXBean) ManagementFactory.getThreadMXBean();
        long before = bean.getThreadAllocatedBytes(Thread.currentThread().getId());
        BallotRing x = new BallotRing();
        // Eighty calls of feed at the most, and rewordings one by one: 512 calls in all.
        CHECK.due("the town", Check.roll(x, town()), 8);
        int calls = 80;
        for (int i = 0; calls < 500; i++) {
            Check.write(x, i % 3 == 0 ? "most" : i % 3 == 1 ? "fewest in t" : "as " + ALL.charAt((i + 1) % 8));
            x.reword(i % 8);
            x.countings();
            x.image(i % 3);
            x.sway(i % 3, 0);
            x.soonest(1);
            x.telling();
            x.shown(3, 0, 3);
            x.back((i + 1) % 3);
            x.left(0);
            calls += 12;
        }
        for (int i = 0; i < 12; i++) {
            x.roll();
        }
        long made = bean.getThreadAllocatedBytes(Thread.currentThread().getId()) - before;
        System.out.println("bytes made in a run: " + made);
        CHECK.due("below half of the room", made < ROOM_IN_BYTES / 2, true);
        CHECK.close("RoomTest");
    }

    private static String town() {
        StringBuilder text = new StringBuilder("name x;name y;name z;street s;street t;");
        for (int i = 0; i < 8; i++) {
            text.append("voter ").append(ALL.charAt(i)).append(i < 4 ? " at s weight 1;" : " at t weight 2;");
        }
        for (int i = 0; i < 8; i++) {
            text.append("ballot ").append(ALL.charAt(i)).append(" if votes x > votes y in s or blanks in t > ").append(i)
                .append(" then most else fewest;");
        }
        return text.toString();
    }
}
