import java.lang.management.ManagementFactory;

/** All calls of one run live in one room: what 512 calls make stays far below it. */
public final class RoomTest {
    private static final String COURSE = "yards 40;most 900;man a 9 9 100;man b 3 7 90;man c 7 8 70;man d 6 9 110;"
        + "man e 5 8 80;man f 4 9 60;" + "bend 3 2 4 70;bend 2 1 7 50;bend 5 4 3 60;".repeat(4) + "runner v 6 1;";
    private static final String PLAN = "crew a b c d;jump a 30;jump b 32;jump c 35;lead 20;high 1 3;high 4 3;";

    private static long made() {
        return ((com.sun.management.ThreadMXBean) ManagementFactory.getThreadMXBean())
            .getThreadAllocatedBytes(Thread.currentThread().getId());
    }

    private static void within(String what, long bytes, long most) {
        if (bytes > most) {
            System.out.println(what + " made " + bytes + " bytes");
        }
        Texts.due(what + " makes too much", bytes > most, false);
    }

    /** The texts alone: how much the test makes itself. */
    private static FourSledge told() {
        FourSledge x = new FourSledge();
        Texts.course(x, COURSE);
        Texts.plan(x, PLAN);
        Texts.sentence(x, "gets and not ahead d");
        x.best();
        x.line();
        x.four();
        return x;
    }

    public static void main(String[] args) {
        made();
        told();
        FourSledge x = told();
        long before = made();
        for (int i = 0; i < 64; i++) {
            x.best();
            x.line();
            x.four();
            x.odds(60, i, 900);
            x.jump(0, i % 40);
            x.take(i & 1);
            x.said(-1);
            x.image(i & 1);
        }
        within("512 calls that keep nothing new", made() - before, 1 << 16);
        before = made();
        for (int i = 0; i < 512; i++) {
            x.course();
        }
        within("512 courses", made() - before, 1 << 20);
        before = made();
        for (int i = 0; i < 512; i++) {
            x.sentence();
        }
        within("512 sentences", made() - before, 1 << 19);
        before = made();
        for (int i = 0; i < 512; i++) {
            new FourSledge();
        }
        within("512 objects", made() - before, 10 << 20);
        Texts.finish("RoomTest");
    }
}
