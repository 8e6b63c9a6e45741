import java.lang.management.ManagementFactory;

/** Calls make no objects, and the machine never throws, whatever the arguments and the state. */
public final class RoomTest {
    private static final int[] ODD = {Integer.MIN_VALUE, -1000, -3, -2, -1, 0, 1, 2, 3, 6, 7, 9, 10, 11, 12, 13, 17, 18,
        19, 31, 32, 33, 64, 899, 900, 901, 1439, 1440, 1441, 9999, 10000, Integer.MAX_VALUE - 1, Integer.MAX_VALUE};
    /** The most of all: nine stops, twelve houses, eighteen streets with gates. */
    private static final String LARGEST = largest();

    private RoomTest() {
    }

    private static String largest() {
        StringBuilder text = new StringBuilder("nodes 10;cart 200;");
        int streets = 0;
        for (int step = 1; step <= 2; step++) {
            for (int a = 0; a < 10 && streets < 18; a++) {
                text.append("street ").append(a).append(' ').append((a + step) % 10).append(' ').append(a % 4 + 1)
                        .append(" gate ").append(300 + a).append(" 999;");
                streets++;
            }
        }
        for (int h = 0; h < 12; h++) {
            text.append("house ").append(h % 9 + 1).append(" 1 0 1 2 3 4 5 6 7;");
        }
        return text.toString();
    }

    public static void main(String[] args) {
        oddArguments(new DeliveryRound());
        oddArguments(Check.round("nodes 3;" + "street 0 1 5;" + "house 1 0 0 9 9 9 9 9 9 9;"));
        DeliveryRound large = Check.round(LARGEST);
        Check.due("streetCount", large.streetCount(), 18);
        Check.due("houseCount", large.houseCount(), 12);
        oddArguments(large);
        room();
        Check.end();
    }

    private static void oddArguments(DeliveryRound r) {
        for (int a : ODD) {
            r.houseNode(a);
            r.demand(a);
            r.horseStop(a);
            r.fastestStop(a);
            r.previewFinish(a);
            r.bottlesAt(a);
            r.delivered(a);
            r.returned(a);
            r.broken(a);
            r.bill(a);
            r.visitHouse(a);
            r.visitMinute(a);
            r.visitReturned(a);
            r.carryOut(a);
            r.setSkipped(a, true);
            r.saveSnapshot(a);
            r.restoreSnapshot(a);
            for (int b : ODD) {
                r.order(a, b);
                r.isOpen(a, b);
                r.habit(a, b);
                r.breakBottles(a, b);
                r.setKeep(a, b);
                for (int c : ODD) {
                    r.arrival(a, b, c);
                    r.setOrder(a, b, c);
                    r.setGate(a, b, c);
                }
            }
            r.undo();
        }
        for (int a : ODD) {
            r.append(a, a, a, a, a);
            r.parse(a);
        }
        Check.due("an object that has seen all this still answers", r.parse(0) <= 0, true);
    }

    /** A run of 512 of the dearest calls, each on a changed state. */
    private static void dearCalls() {
        DeliveryRound r = Check.round(LARGEST);
        for (int i = 0; i < 90; i++) {
            r.setOrder(0, 0, i % 9 + 1);
            r.fastestFinish();
            r.carryOut(i % 3);
            r.horseStop(8);
            r.saveSnapshot(i % 2);
        }
        Check.feed(r, LARGEST);
        r.parse(LARGEST.length());
    }

    private static void room() {
        java.lang.management.ThreadMXBean bean = ManagementFactory.getThreadMXBean();
        dearCalls();
        if (!(bean instanceof com.sun.management.ThreadMXBean counter)) {
            return;
        }
        long id = Thread.currentThread().getId();
        long before = counter.getThreadAllocatedBytes(id);
        dearCalls();
        long used = counter.getThreadAllocatedBytes(id) - before;
        System.out.println("a run of the dearest calls took " + used + " bytes");
        Check.due("a run stays far below its room", used < 1000000, true);
    }
}
