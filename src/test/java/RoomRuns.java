import java.lang.management.ManagementFactory;

/** The dearest run: full rows, 27 ways, a border each few days. All its calls live in one room. */
public final class RoomRuns {
    private static final long BYTES = 4L * 7_300_000;

    public static void main(String[] args) {
        com.sun.management.ThreadMXBean room = (com.sun.management.ThreadMXBean) ManagementFactory.getThreadMXBean();
        dearest();
        long before = room.getCurrentThreadAllocatedBytes();
        long start = System.nanoTime();
        long chains = dearest();
        long took = (System.nanoTime() - start) / 1_000_000;
        long bytes = room.getCurrentThreadAllocatedBytes() - before;
        System.out.println("RoomRuns: " + bytes + " bytes, " + took + " ms, " + chains + " links");
        if (bytes > BYTES / 4) {
            System.out.println("RoomRuns: too dear");
            System.exit(1);
        }
    }

    private static long dearest() {
        LandBonds x = new LandBonds();
        for (int i = 0; i < 5; i++) x.land();
        for (int i = 0; i < 12; i++) x.place(i % 5);
        for (int i = 0; i < 20; i++) x.person(i % 2, i - 1, -1);
        String text = "gain border here children 99;lose border not here and (sex or has or others) children 99;"
            + "gain act here or sex;gain border moved<9 and (father or mother or stay*2+age<year);";
        for (int i = 0; i < 12; i++) Calls.act(x, i % 5, text, i, 72999);
        for (int i = 0; i < 20; i++) x.fact(0, i, 0, i % 12, 10 + i);
        for (int i = 0; i < 80; i++) x.fact(5, 0, i * 7 % 5, i % 12, 100 + i);
        for (int f = 20; f < 23; f++) {
            x.also(f, 150);
            x.also(f, 160);
        }
        long links = 0;
        for (int i = 0; i < 60; i++) {
            links += x.chain(i % 20, i % 5, 200 + i, -1, 0, 0);
            x.belongs(i % 20, i % 5, 200 + i, 0);
        }
        return links;
    }
}
