import java.util.List;

/** Promises 9 to 12: dumps, what they recorded, and the dumpdates. */
public final class DumpTest {
    private static final int FREE = 0;
    private static final int FILE = 1;
    private static final int DIR = 2;

    private static final Checks is = new Checks();

    public static void main(String[] args) {
        dumpRecordsAndCaptures();
        dumpChangesOnlyClockDateAndItself();
        dumpCapturesWhatIsNewerThanTheBase();
        baseIsTheGreatestLowerDate();
        everyLevelHasItsBase();
        dumpRefusesInOrder();
        dumpInfoAnswers();
        dumpEntryAnswers();
        aTakenDumpNeverChanges();
        everySlotOfTheGreatestObjectIsItsOwn();
        dumpDateAnswers();
        is.end();
    }

    /** Inode 1 is a directory, 2 a written file in it, 3 a file in the root; 4 is free; the clock is 4. */
    private static DumpLevels small() {
        DumpLevels x = new DumpLevels(5, 4);
        x.create(0, 10, DIR);
        x.create(1, 11, FILE);
        x.create(0, 12, FILE);
        x.write(2, -6);
        return x;
    }

    // Promise 9

    private static void dumpRecordsAndCaptures() {
        DumpLevels x = small();
        is.due("dump(0)", 0, x.dump(0));
        is.info(x, 0, 0, 5, 0, 3);
        is.entry(x, 0, 0, DIR, 0, 0, 0, 0, 0);
        is.entry(x, 0, 1, DIR, 0, 10, 0, 1, 1);
        is.entry(x, 0, 2, FILE, 1, 11, -6, 4, 1);
        is.entry(x, 0, 3, FILE, 0, 12, 0, 3, 1);
        is.entry(x, 0, 4, FREE, 0, 0, 0, 0, 0);
        is.due("getClock()", 5, x.getClock());
        x.write(3, 50);
        x.rename(2, 0, 99);
        x.create(1, 13, FILE);
        is.due("dump(5)", 1, x.dump(5));
        is.info(x, 1, 5, 8, 5, 2);
        is.entry(x, 1, 0, DIR, 0, 0, 0, 0, 0);
        is.entry(x, 1, 1, DIR, 0, 10, 0, 0, 0);
        is.entry(x, 1, 2, FILE, 0, 99, 0, 0, 0);
        is.entry(x, 1, 3, FILE, 0, 12, 50, 6, 1);
        is.entry(x, 1, 4, FILE, 1, 13, 0, 7, 1);
        x.remove(4);
        is.due("dump(6)", 2, x.dump(6));
        is.info(x, 2, 6, 9, 8, 0);
        is.entry(x, 2, 3, FILE, 0, 12, 0, 0, 0);
        is.entry(x, 2, 4, FREE, 0, 0, 0, 0, 0);
    }

    private static void dumpChangesOnlyClockDateAndItself() {
        DumpLevels x = small();
        x.dump(3);
        x.restoreApply(0);
        x.write(2, 8);
        int[] levels = {3, 0, 9};
        for (int k = 0; k < levels.length; k++) {
            int clock = x.getClock();
            List<String> before = Checks.stateOf(x);
            is.due("dump(" + levels[k] + ")", k + 1, x.dump(levels[k]));
            is.sameBut("dump", before, Checks.stateOf(x), "dump " + (k + 1), "clock", "dumpDate " + levels[k]);
            is.due("getClock()", clock + 1, x.getClock());
            is.due("dumpDate(" + levels[k] + ")", clock + 1, x.dumpDate(levels[k]));
        }
    }

    private static void dumpCapturesWhatIsNewerThanTheBase() {
        DumpLevels x = new DumpLevels(6, 8);
        x.create(0, 1, FILE);
        x.dump(0);
        x.create(0, 2, FILE);
        x.dump(1);
        x.create(0, 3, FILE);
        x.dump(1);
        is.info(x, 1, 1, 4, 2, 1);
        is.info(x, 2, 1, 6, 2, 2);
        is.entry(x, 2, 1, FILE, 0, 1, 0, 0, 0);
        is.entry(x, 2, 2, FILE, 0, 2, 0, 3, 1);
        is.entry(x, 2, 3, FILE, 0, 3, 0, 5, 1);
        x.dump(0);
        is.info(x, 3, 0, 7, 0, 3);
        x.dump(0);
        is.info(x, 4, 0, 8, 0, 3);
        x.write(1, 0);
        x.dump(1);
        is.info(x, 5, 1, 10, 8, 1);
        is.entry(x, 5, 1, FILE, 0, 1, 0, 9, 1);
    }

    private static void baseIsTheGreatestLowerDate() {
        DumpLevels x = new DumpLevels(4, 8);
        x.create(0, 1, FILE);
        x.dump(4);
        is.info(x, 0, 4, 2, 0, 1);
        x.dump(2);
        is.info(x, 1, 2, 3, 0, 1);
        x.dump(5);
        is.info(x, 2, 5, 4, 3, 0);
        x.dump(4);
        is.info(x, 3, 4, 5, 3, 0);
        x.dump(9);
        is.info(x, 4, 9, 6, 5, 0);
        x.dump(0);
        is.info(x, 5, 0, 7, 0, 1);
        x.dump(5);
        is.info(x, 6, 5, 8, 7, 0);
        x.dump(5);
        is.info(x, 7, 5, 9, 7, 0);
    }

    private static void everyLevelHasItsBase() {
        for (int lower = 0; lower < 10; lower++) {
            for (int level = 0; level < 10; level++) {
                DumpLevels x = new DumpLevels(4, 2);
                x.create(0, 1, FILE);
                is.due("dump(" + lower + ")", 0, x.dump(lower));
                is.due("dump(" + level + ")", 1, x.dump(level));
                is.info(x, 1, level, 3, lower < level ? 2 : 0, lower < level ? 0 : 1);
            }
        }
    }

    private static void refusedDump(DumpLevels x, int want, int level) {
        List<String> before = Checks.stateOf(x);
        is.due("dump(" + level + ")", want, x.dump(level));
        is.same("dump(" + level + ")", before, Checks.stateOf(x));
    }

    private static void dumpRefusesInOrder() {
        DumpLevels x = new DumpLevels(4, 2);
        x.create(0, 1, FILE);
        refusedDump(x, -9, -1);
        refusedDump(x, -9, 10);
        x.dump(9);
        x.restoreApply(0);
        for (int wild : Checks.WILD) {
            refusedDump(x, -9, wild);
        }
        is.due("dump(0)", 1, x.dump(0));
        x.write(1, 4);
        for (int level = 0; level < 10; level++) {
            refusedDump(x, -5, level);
        }
        refusedDump(x, -9, -1);
        refusedDump(x, -9, 10);
    }

    // Promise 10

    private static void dumpInfoAnswers() {
        DumpLevels x = small();
        is.due("dumpInfo(0, 0) before any dump", -1, x.dumpInfo(0, 0));
        x.dump(7);
        x.dump(8);
        List<String> before = Checks.stateOf(x);
        is.info(x, 0, 7, 5, 0, 3);
        is.info(x, 1, 8, 6, 5, 0);
        for (int what = 0; what < 4; what++) {
            is.due("dumpInfo(2, " + what + ")", -1, x.dumpInfo(2, what));
            is.due("dumpInfo(8, " + what + ")", -1, x.dumpInfo(8, what));
            for (int wild : Checks.WILD) {
                is.due("dumpInfo(" + wild + ", " + what + ")", -1, x.dumpInfo(wild, what));
            }
        }
        for (int d = 0; d < 2; d++) {
            is.due("dumpInfo(" + d + ", 4)", -1, x.dumpInfo(d, 4));
            for (int wild : Checks.WILD) {
                is.due("dumpInfo(" + d + ", " + wild + ")", -1, x.dumpInfo(d, wild));
            }
        }
        is.same("dumpInfo", before, Checks.stateOf(x));
    }

    // Promise 11

    private static void dumpEntryAnswers() {
        DumpLevels x = small();
        is.due("dumpEntry(0, 0, 0) before any dump", -1, x.dumpEntry(0, 0, 0));
        x.dump(0);
        x.dump(1);
        List<String> before = Checks.stateOf(x);
        is.entry(x, 1, 2, FILE, 1, 11, 0, 0, 0);
        for (int what = 0; what < 6; what++) {
            is.due("dumpEntry(2, 1, " + what + ")", -1, x.dumpEntry(2, 1, what));
            is.due("dumpEntry(0, 5, " + what + ")", -1, x.dumpEntry(0, 5, what));
            is.due("dumpEntry(0, 16, " + what + ")", -1, x.dumpEntry(0, 16, what));
            is.due("dumpEntry(1, -1, " + what + ")", -1, x.dumpEntry(1, -1, what));
            for (int wild : Checks.WILD) {
                is.due("dumpEntry(" + wild + ", 1, " + what + ")", -1, x.dumpEntry(wild, 1, what));
                is.due("dumpEntry(0, " + wild + ", " + what + ")", -1, x.dumpEntry(0, wild, what));
            }
        }
        for (int inode = 0; inode < 5; inode++) {
            is.due("dumpEntry(0, " + inode + ", 6)", -1, x.dumpEntry(0, inode, 6));
            for (int wild : Checks.WILD) {
                is.due("dumpEntry(0, " + inode + ", " + wild + ")", -1, x.dumpEntry(0, inode, wild));
            }
        }
        is.same("dumpEntry", before, Checks.stateOf(x));
    }

    private static void aTakenDumpNeverChanges() {
        DumpLevels x = small();
        x.dump(0);
        x.write(3, 1);
        x.dump(1);
        List<String> before = Checks.stateOf(x);
        x.write(2, 1000);
        x.rename(2, 0, 200);
        x.remove(1);
        x.remove(3);
        x.create(0, 201, DIR);
        x.restoreApply(0);
        x.restoreApply(1);
        x.restoreReset();
        x.dump(0);
        x.dump(1);
        is.sameBut("calls after a dump", before, Checks.stateOf(x), "inode", "clock", "dump 2", "dump 3", "dumpDate");
    }

    private static void everySlotOfTheGreatestObjectIsItsOwn() {
        DumpLevels x = new DumpLevels(16, 8);
        for (int i = 1; i < 16; i++) {
            x.create(0, i, FILE);
        }
        int clock = 15;
        for (int d = 0; d < 8; d++) {
            for (int i = 1; i < 16; i++) {
                x.write(i, 100 * d + i);
                x.rename(i, 0, 16 * (d + 1) + i);
            }
            x.dump(d);
        }
        for (int d = 0; d < 8; d++) {
            is.info(x, d, d, clock + 16, d == 0 ? 0 : clock, 15);
            is.entry(x, d, 0, DIR, 0, 0, 0, 0, 0);
            for (int i = 1; i < 16; i++) {
                is.entry(x, d, i, FILE, 0, 16 * (d + 1) + i, 100 * d + i, clock + i, 1);
            }
            clock += 16;
        }
    }

    // Promise 12

    private static void dumpDateAnswers() {
        DumpLevels x = new DumpLevels(4, 8);
        x.dump(9);
        x.dump(0);
        x.dump(4);
        x.dump(9);
        List<String> before = Checks.stateOf(x);
        int[] want = {2, 0, 0, 0, 3, 0, 0, 0, 0, 4};
        for (int level = 0; level < 10; level++) {
            is.due("dumpDate(" + level + ")", want[level], x.dumpDate(level));
        }
        is.due("dumpDate(10)", -1, x.dumpDate(10));
        for (int wild : Checks.WILD) {
            is.due("dumpDate(" + wild + ")", -1, x.dumpDate(wild));
        }
        is.same("dumpDate", before, Checks.stateOf(x));
    }
}
