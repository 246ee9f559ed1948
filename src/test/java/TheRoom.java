import java.lang.management.ManagementFactory;

/** Looks whether calls make no objects: all rows are to be made in the constructor. */
public final class TheRoom {
    // Far below one small row for each call, and above what the virtual machine makes for itself.
    private static final long MOST_BYTES = 4096;

    private static int sum = 0;

    private static LabelledFlows build() {
        LabelledFlows x = new LabelledFlows();
        for (int i = 0; i < 12; i++) {
            x.bind(i / 3, i % 3, i % 4);
        }
        for (int i = 0; i < 4; i++) {
            x.add(i, 0, 2, i, 0);
            x.add(i, 1, 3, 0, 0);
            x.add(i, 6, 2, 3, i % 2);
            x.add(i, 7, 2, 2, 3 + i % 3 * 4);
            x.add(i, 2, 2, 0, 0);
            x.add(i, 8, 1, 0, 0);
            x.add(i, 10, 2, 0, 0);
        }
        return x;
    }

    private static void useOnce(LabelledFlows x, int i) {
        sum += x.analyse(i % 7 == 0 ? 3 : 1000000) + x.run(i * 77, 200) + x.verdict() + x.outcome();
        sum += x.entries(i % 7) + x.points(i % 7, i % 5) + x.cell(i % 7, i % 3) + x.made();
        sum += x.hits(i % 4, i % 5) + (x.finding(i % 4, i % 5) ? 1 : 0) + (x.may(i % 4, 3, i % 17, 0) ? 1 : 0);
        sum += x.target(i % 4, i % 3) + x.size(i % 7) + x.add(4, 4, 0, 0, 0) + (x.drop(4) ? 1 : 0);
        sum += (x.derive(3, i % 3) ? 1 : 0) + (x.bind(3, 2, i % 6) ? 1 : 0);
    }

    public static void main(String[] args) {
        if (!(ManagementFactory.getThreadMXBean() instanceof com.sun.management.ThreadMXBean bean)) {
            System.out.println("this virtual machine does not count what is made");
            return;
        }
        LabelledFlows x = build();
        useOnce(x, 0);
        bean.getCurrentThreadAllocatedBytes();
        long before = bean.getCurrentThreadAllocatedBytes();
        for (int i = 0; i < 20; i++) {
            useOnce(x, i);
        }
        long made = bean.getCurrentThreadAllocatedBytes() - before;
        System.out.println(made + " bytes made by 340 calls (" + sum + ")");
        if (made > MOST_BYTES) {
            System.exit(1);
        }
    }
}
