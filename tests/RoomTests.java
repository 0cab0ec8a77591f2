import java.lang.management.ManagementFactory;

/** The calls of a whole run make next to nothing, and end soon, on the families that are dearest to search. */
public final class RoomTests {
    private static int wrong = 0;

    private static PetalSets made(int[] sets) {
        PetalSets x = new PetalSets();
        x.feed(0x706f696e, 0x74732031, 0x303b2020, 0x20202020, 0x20202020);
        x.text();
        for (int s : sets) x.add(s);
        return x;
    }

    private static int askAll(PetalSets x) {
        int sum = 0;
        for (int k = 2; k <= 16; k++) sum += x.most(k) + x.flowers(k) + x.cores(k) + x.freeNext(k) + x.flower(k) + x.surplus(k);
        for (int b = 1; b <= 5; b++) for (int i = -1; i < 30; i++) sum += x.report(b, i) + x.kernelSet(b, i);
        for (int i = -1; i < 20; i++) sum += x.spell(i) + x.tight(i) + x.withSet(31 * i) + x.withoutSet(i) + x.link(i, 1) + x.byCore(i, 1);
        for (int p = 1; p <= 9; p++) sum += x.spread(p, 1) + x.greatest(p) + x.ranked(p) + x.pairs(p);
        return sum + x.spreadest() + x.parts() + x.exact(0) + x.halves(0) + x.hitter(3) + x.greedy(1) + x.apart(1) + x.thin(3) + x.undo()
            + x.reduce(2) + x.undo() + x.turn() + x.swap(0, 9) + x.flip() + x.without(3) + x.join(1, 2) + x.text();
    }

    public static void main(String[] args) {
        int[][] families = {
            {1, 2, 4, 8, 16, 32, 64, 128, 256, 512, 768, 18, 68, 320, 40, 144},
            {320, 136, 192, 272, 24, 65, 513, 514, 1, 20, 40, 34, 258, 260, 288, 12},
            {274, 546, 296, 138, 656, 208, 104, 290, 641, 672, 896, 518, 98, 522, 322, 292},
            {1023, 511, 255, 127, 63, 31, 15, 7, 3, 1, 1022, 1020, 1016, 1008, 992, 960},
        };
        com.sun.management.ThreadMXBean bean = (com.sun.management.ThreadMXBean) ManagementFactory.getThreadMXBean();
        long self = Thread.currentThread().getId();
        int sum = 0;
        for (int[] f : families) sum += askAll(made(f));
        for (int[] f : families) {
            long before = bean.getThreadAllocatedBytes(self);
            PetalSets x = made(f);
            long between = bean.getThreadAllocatedBytes(self);
            long start = System.nanoTime();
            sum += askAll(x);
            long after = bean.getThreadAllocatedBytes(self);
            long millis = (System.nanoTime() - start) / 1000000;
            if (between - before > 20000) { wrong++; System.out.println("an object takes " + (between - before) + " bytes"); }
            if (after - between > 20000) { wrong++; System.out.println("the calls make " + (after - between) + " bytes"); }
            if (millis > 5000) { wrong++; System.out.println("the calls take " + millis + " ms"); }
        }
        System.out.println(wrong == 0 ? "room and time are kept (" + sum + ")" : wrong + " limits are not kept");
        if (wrong != 0) System.exit(1);
    }
}
