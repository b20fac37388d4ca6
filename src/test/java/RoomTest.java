import java.lang.management.ManagementFactory;

/** All calls of one run live in one room: what the dearest runs make is measured. */
public final class RoomTest {
    private static final com.sun.management.ThreadMXBean THREADS =
        (com.sun.management.ThreadMXBean) ManagementFactory.getThreadMXBean();

    private static long made() {
        return THREADS.getThreadAllocatedBytes(Thread.currentThread().getId());
    }

    public static void main(String[] args) {
        Desk.promise = "the room";
        made();
        long before = made();
        SyntaxRules x = new SyntaxRules();
        long object = made() - before;
        Desk.due("an object stays under 200,000 bytes, made " + object, object < 200_000, true);

        before = made();
        for (int i = 0; i < 512; i++) {
            x.rule();
        }
        long rules = made() - before;
        Desk.due("512 rules stay under 4,000,000 bytes, made " + rules, rules < 4_000_000, true);

        Desk d = Desk.with("(f (g a[x] 1) (g a 1) b (h c (f 1 2 3)))", "(f *A ?B *C) = (f *A (g ?B) *C)",
            "(g ?A ?B) = (h ?B ?A)", "^ a = b", "?A:n = 7", "(h *A) = (k *A *A)");
        before = made();
        for (int i = 0; i < 14; i++) {
            everyCall(d.x, i);
        }
        long calls = made() - before;
        Desk.due("all other calls make nothing, made " + calls, calls < 100_000, true);
        System.out.println("an object " + object + " bytes, 512 rules " + rules + ", other calls " + calls);
        Desk.close("RoomTest");
    }

    private static void everyCall(SyntaxRules x, int i) {
        int way = i & 1;
        x.node(0, i % 8);
        x.name(0, 0);
        x.comment(-1, 0);
        x.alike(0, 0);
        x.twins(0, 0);
        x.told(0, i % 5);
        x.ways(0, 0);
        x.held(0, 0, 0, 0);
        x.found(0, -1);
        x.rulesOf(0);
        x.tests(i & 1);
        x.asked(0);
        x.edit(way, 0, i % 4);
        x.comes(way, 0, 3);
        x.conflicts(way, i % 3);
        x.would(way, i % 3);
        x.keep(0);
        x.after(way, 6, i % 3);
        x.rounds(way, 6);
        x.undo();
        x.apply(way);
        x.again(0);
        for (int k = 0; k < 7; k++) {
            x.count(k);
        }
    }
}
