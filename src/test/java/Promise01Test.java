/** A test for each sentence of promise 1: construction and initial state. */
public final class Promise01Test extends Sentences {
    public static void main(String[] args) {
        section("Promise 1");
        holds(1, "`DumpLevels(int inodes, int dumps)` clamps `inodes` into 4..16 and `dumps` into 2..8.",
            Promise01Test::sentence1Clamps);
        holds(2, "A value below the least becomes the least, and a value above the greatest becomes the greatest; "
            + "this includes any negative value and `Integer.MIN_VALUE` / `Integer.MAX_VALUE`.",
            Promise01Test::sentence2TooSmallAndTooLarge);
        holds(3, "It sets N to the clamped `inodes` and D to the clamped `dumps`.",
            Promise01Test::sentence3SetsNAndD);
        holds(4, "N and D never change afterwards.", Promise01Test::sentence4NAndDNeverChange);
        holds(5, "Initial state: only the root is in use, and inodes 1..N-1 are free with all fields 0.",
            Promise01Test::sentence5OnlyTheRootIsInUse);
        holds(6, "The clock is 0, no dumps are taken, and all ten dumpdates are 0.",
            Promise01Test::sentence6ClockDumpsAndDumpdates);
        holds(7, "The restored file system has only the root in use and every other inode free, and restoreStamp "
            + "is 0.", Promise01Test::sentence7NothingIsRestored);
        end();
    }

    /** Sees by every call with a range that the object has n inodes and room for limit dumps; takes them all. */
    private static void hasSizes(Checks is, DumpLevels x, int n, int limit) {
        is.due("inodes", n, inodesOf(x));
        is.answers(x, restoredInfo(n - 1, KIND), FREE);
        is.answers(x, restoredInfo(n, KIND), -1);
        for (int i = 1; i < n; i++) {
            is.answers(x, create(0, i, FILE), i);
        }
        is.answers(x, create(0, 100, FILE), ERR_FULL);
        is.answers(x, write(n - 1, 1), OK);
        is.answers(x, write(n, 1), ERR_INODE);
        for (int d = 0; d < limit; d++) {
            is.answers(x, dump(0), d);
        }
        is.answers(x, dump(0), ERR_FULL);
        is.due("dumps", limit, dumpsOf(x));
        is.answers(x, dumpEntry(limit - 1, n - 1, KIND), FILE);
        is.answers(x, dumpEntry(limit - 1, n, KIND), -1);
    }

    private static void sentence1Clamps(Checks is) {
        int[][] inodes = {{2, 4}, {3, 4}, {4, 4}, {5, 5}, {15, 15}, {16, 16}, {17, 16}, {18, 16}};
        for (int[] c : inodes) {
            hasSizes(is, new DumpLevels(c[0], 5), c[1], 5);
        }
        int[][] dumps = {{0, 2}, {1, 2}, {2, 2}, {3, 3}, {7, 7}, {8, 8}, {9, 8}, {10, 8}};
        for (int[] c : dumps) {
            hasSizes(is, new DumpLevels(9, c[0]), 9, c[1]);
        }
    }

    private static void sentence2TooSmallAndTooLarge(Checks is) {
        for (int small : new int[] {MIN, MIN + 1, MIN + 8, -65530, -250, -16, -8, -1, 0, 1}) {
            hasSizes(is, new DumpLevels(small, 3), 4, 3);
            hasSizes(is, new DumpLevels(5, small), 5, 2);
            hasSizes(is, new DumpLevels(small, small), 4, 2);
        }
        for (int large : new int[] {17, 24, 100, 264, 65544, MAX - 1, MAX}) {
            hasSizes(is, new DumpLevels(large, 3), 16, 3);
            hasSizes(is, new DumpLevels(5, large), 5, 8);
            hasSizes(is, new DumpLevels(large, large), 16, 8);
        }
        hasSizes(is, new DumpLevels(MIN, MAX), 4, 8);
        hasSizes(is, new DumpLevels(MAX, MIN), 16, 2);
    }

    private static void sentence3SetsNAndD(Checks is) {
        for (int n = 4; n <= 16; n++) {
            for (int limit = 2; limit <= 8; limit++) {
                hasSizes(is, new DumpLevels(n, limit), n, limit);
            }
        }
    }

    private static void sentence4NAndDNeverChange(Checks is) {
        MixedRun.all((n, limit) -> new MixedRun.Look() {
            @Override
            public void after(DumpLevels x, MixedRun.Step step) {
                is.due("inodes after " + step.name(), n, inodesOf(x));
                is.due("restored inodes end at N-1", true, x.restoredInfo(n - 1, KIND) != -1);
                is.answers(x, restoredInfo(n, KIND), -1);
            }

            @Override
            public void end(DumpLevels x) {
                for (int d = dumpsOf(x); d < limit; d++) {
                    is.answers(x, dump(0), d);
                }
                is.answers(x, dump(0), ERR_FULL);
            }
        });
        // Other objects, made later, have sizes of their own.
        DumpLevels small = new DumpLevels(4, 2);
        DumpLevels large = new DumpLevels(16, 8);
        hasSizes(is, small, 4, 2);
        hasSizes(is, large, 16, 8);
    }

    private static void sentence5OnlyTheRootIsInUse(Checks is) {
        for (int n = 4; n <= 16; n++) {
            DumpLevels x = new DumpLevels(n, 2);
            is.live(x, 0, DIR, 0, 0, 0, 0);
            for (int i = 1; i < n; i++) {
                is.live(x, i, FREE, 0, 0, 0, 0);
            }
        }
    }

    private static void sentence6ClockDumpsAndDumpdates(Checks is) {
        for (int limit = 2; limit <= 8; limit++) {
            DumpLevels x = new DumpLevels(4, limit);
            is.answers(x, getClock(), 0);
            for (int d = 0; d < limit; d++) {
                is.answers(x, dumpInfo(d, DUMP_LEVEL), -1);
                is.answers(x, dumpEntry(d, 0, KIND), -1);
                is.answers(x, restoreApply(d), ERR_NO_DUMP);
            }
            for (int level = 0; level < 10; level++) {
                is.answers(x, dumpDate(level), 0);
            }
        }
    }

    private static void sentence7NothingIsRestored(Checks is) {
        for (int n = 4; n <= 16; n++) {
            DumpLevels x = new DumpLevels(n, 2);
            is.restored(x, 0, DIR, 0, 0, 0, 0);
            for (int i = 1; i < n; i++) {
                is.restored(x, i, FREE, 0, 0, 0, 0);
            }
            is.answers(x, restoreStamp(), 0);
        }
    }
}
