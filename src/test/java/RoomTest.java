import java.lang.management.ManagementFactory;

/** What runs of 512 calls allocate: all of it has to fit into one room of 7.3 million fields and elements. */
public final class RoomTest {
    private static final long LIMIT = 8L << 20;

    public static void main(String[] args) {
        Checks c = new Checks("the room");
        allocation(new LogicMachine(), 0);
        for (int kind = 0; kind < 4; kind++) {
            LogicMachine m = new LogicMachine();
            long bytes = allocation(m, kind);
            System.out.println("RoomTest: calls of kind " + kind + " allocate " + bytes + " bytes");
            c.due("room for calls of kind " + kind, bytes <= LIMIT ? 1 : 0, 1);
        }
        long before = allocated();
        LogicMachine m = new LogicMachine();
        long bytes = allocated() - before;
        System.out.println("RoomTest: a new object allocates " + bytes + " bytes");
        c.due("room for a new object", bytes <= 1 << 16 && m.told(0) == 0 ? 1 : 0, 1);
        Checks.finish("RoomTest");
    }

    private static long allocated() {
        return ((com.sun.management.ThreadMXBean) ManagementFactory.getThreadMXBean()).getThreadAllocatedBytes(
                Thread.currentThread().getId());
    }

    private static void type(LogicMachine m, String text) {
        m.wipe();
        for (int i = 0; i < text.length(); i++) {
            m.write(text.charAt(i));
        }
    }

    private static long allocation(LogicMachine m, int kind) {
        type(m, kind == 2 ? "p(X):-q(X).q(1).q(2).q(3):-q(4).q(X):-p(X)." : "a:-b.".repeat(20));
        if (kind == 2) {
            m.consult();
            type(m, "p([A,B,C,D,E,F,G,H,[],[],[],[],[],[],[],[],[],[],[],[]]).");
        }
        long before = allocated();
        for (int i = 0; i < 256; i++) {
            switch (kind) {
                case 0:
                    m.consult();
                    m.undo();
                    break;
                case 1:
                    m.fault(0);
                    m.fault(1);
                    break;
                case 2:
                    m.ask();
                    m.run(300);
                    break;
                default:
                    m.consult();
                    m.listing(i % 20, i);
                    m.retract(i % 20);
                    m.move(0, 3);
            }
        }
        return allocated() - before;
    }
}
