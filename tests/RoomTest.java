import java.lang.management.ManagementFactory;

/** The calls of a run make nothing that stays: all rows are made by the constructor, and that is small. */
public final class RoomTest {
    private static final com.sun.management.ThreadMXBean BEAN =
        (com.sun.management.ThreadMXBean) ManagementFactory.getThreadMXBean();

    private static int wrong = 0;

    private static void atMost(String what, long got, long most) {
        if (got > most) {
            wrong++;
            System.out.println(what + " took " + got + " bytes, due are at most " + most);
        }
    }

    private static long bytes() {
        return BEAN.getCurrentThreadAllocatedBytes();
    }

    private static HouseClauses fullHouse() {
        HouseClauses x = new HouseClauses();
        int[] masks = {4, 2, 28, 35, 32, 31, 17, 46, 16, 2, 63, 0, 44, 19, 2, 0, 0, 23, 1, 16};
        for (int i = 0; i < 20; i += 2) {
            x.make(9, masks[i], masks[i + 1]);
        }
        return x;
    }

    private static void changes(HouseClauses x, int i) {
        x.clearBuffer();
        x.append('n');
        x.append('9');
        x.runLog();
        x.keep();
        x.pass(30);
        x.goBack();
        x.waive(i % 10, i % 31);
        x.setStrict(i % 10, i % 2 == 0);
        x.withdraw(0);
        x.make(1, 4, 2);
        x.undo();
        x.undo();
    }

    public static void main(String[] args) {
        HouseClauses x = fullHouse();
        x.digest();
        long before = bytes();
        for (int i = 0; i < 64; i++) {
            x.digest();
            changes(x, i);
        }
        atMost("64 digests and changes", bytes() - before, 10_000);
        before = bytes();
        fullHouse();
        atMost("an object with ten rules", bytes() - before, 40_000);
        System.out.println(wrong == 0 ? "the room is as due" : "the room is not as due");
        if (wrong != 0) {
            System.exit(1);
        }
    }
}
