import java.util.List;

/** Promises 1 to 8: the live file system and its clock. */
public final class FileSystemTest {
    private static final int FREE = 0;
    private static final int FILE = 1;
    private static final int DIR = 2;
    private static final int MIN = Integer.MIN_VALUE;
    private static final int MAX = Integer.MAX_VALUE;

    private static final Checks is = new Checks();

    public static void main(String[] args) {
        constructionClampsInodes();
        constructionClampsDumps();
        constructionStartsWithTheRootAlone();
        objectsShareNothing();
        createTakesTheLowestFreeInode();
        createRefusesInOrder();
        createRefusesWildArguments();
        writeSetsContentAndStamp();
        writeRefuses();
        removeFreesTheInode();
        removeRefuses();
        renameMoves();
        renameRefusesInOrder();
        renameSeesCyclesAtAnyDepth();
        lookupFindsEntries();
        inodeInfoAnswersFields();
        clockCountsCreatesWritesAndDumps();
        is.end();
    }

    // Promise 1

    private static void constructionClampsInodes() {
        int[][] cases = {{MIN, 4}, {-5, 4}, {-1, 4}, {0, 4}, {3, 4}, {4, 4}, {5, 5}, {9, 9}, {15, 15},
            {16, 16}, {17, 16}, {100, 16}, {MAX, 16}};
        for (int[] c : cases) {
            DumpLevels x = new DumpLevels(c[0], 2);
            String made = "new DumpLevels(" + c[0] + ", 2)";
            is.due(made + ".inodeInfo(N-1, KIND)", 0, x.inodeInfo(c[1] - 1, 0));
            is.due(made + ".inodeInfo(N, KIND)", -1, x.inodeInfo(c[1], 0));
            is.due(made + ".restoredInfo(N-1, KIND)", 0, x.restoredInfo(c[1] - 1, 0));
            is.due(made + ".restoredInfo(N, KIND)", -1, x.restoredInfo(c[1], 0));
            for (int i = 1; i < c[1]; i++) {
                is.due(made + ".create(0, " + i + ", FILE)", i, x.create(0, i, FILE));
            }
            is.due(made + ".create of one too many", -5, x.create(0, 200, FILE));
            is.due(made + ".getClock()", c[1] - 1, x.getClock());
        }
    }

    private static void constructionClampsDumps() {
        int[][] cases = {{MIN, 2}, {-3, 2}, {-1, 2}, {0, 2}, {1, 2}, {2, 2}, {3, 3}, {5, 5}, {7, 7}, {8, 8},
            {9, 8}, {100, 8}, {MAX, 8}};
        for (int[] c : cases) {
            DumpLevels x = new DumpLevels(4, c[0]);
            String made = "new DumpLevels(4, " + c[0] + ")";
            for (int d = 0; d < c[1]; d++) {
                is.due(made + ".dump(0)", d, x.dump(0));
            }
            is.due(made + ".dump(0) of one too many", -5, x.dump(0));
            is.due(made + ".dumpInfo(D-1, LEVEL)", 0, x.dumpInfo(c[1] - 1, 0));
            is.due(made + ".dumpInfo(D, LEVEL)", -1, x.dumpInfo(c[1], 0));
        }
    }

    private static void constructionStartsWithTheRootAlone() {
        DumpLevels x = new DumpLevels(16, 8);
        is.live(x, 0, DIR, 0, 0, 0, 0);
        is.restored(x, 0, DIR, 0, 0, 0, 0);
        for (int i = 1; i < 16; i++) {
            is.live(x, i, FREE, 0, 0, 0, 0);
            is.restored(x, i, FREE, 0, 0, 0, 0);
        }
        is.due("getClock()", 0, x.getClock());
        is.due("dumpInfo(0, LEVEL)", -1, x.dumpInfo(0, 0));
        for (int level = 0; level < 10; level++) {
            is.due("dumpDate(" + level + ")", 0, x.dumpDate(level));
        }
        is.due("restoreStamp()", 0, x.restoreStamp());
        is.due("restoreMatches()", true, x.restoreMatches());
    }

    private static void objectsShareNothing() {
        DumpLevels x = new DumpLevels(8, 4);
        DumpLevels y = new DumpLevels(5, 3);
        List<String> before = Checks.stateOf(y);
        x.create(0, 1, FILE);
        x.write(1, 9);
        x.dump(0);
        x.restoreApply(0);
        is.same("calls on another object", before, Checks.stateOf(y));
    }

    // Promise 2

    private static void createTakesTheLowestFreeInode() {
        DumpLevels x = full();
        is.due("remove(4)", 0, x.remove(4));
        is.due("remove(2)", 0, x.remove(2));
        List<String> before = Checks.stateOf(x);
        is.due("create(1, 255, FILE)", 2, x.create(1, 255, FILE));
        is.sameBut("create", before, Checks.stateOf(x), "inode 2", "clock");
        is.live(x, 2, FILE, 1, 255, 0, 7);
        is.due("getClock()", 7, x.getClock());
        is.due("create(1, 1, DIR)", 4, x.create(1, 1, DIR));
        is.live(x, 4, DIR, 1, 1, 0, 8);
        is.due("create(4, 1, FILE) with no inode left", -5, x.create(4, 1, FILE));
    }

    /** Inode 1 is a directory, 2 and 3 are files in it, 4 and 5 files in the root; 2 was written. */
    private static DumpLevels full() {
        DumpLevels x = new DumpLevels(6, 3);
        x.create(0, 10, DIR);
        x.create(1, 11, FILE);
        x.create(1, 12, FILE);
        x.create(0, 13, FILE);
        x.create(0, 14, FILE);
        x.write(2, 77);
        return x;
    }

    private static void refusedCreate(DumpLevels x, int want, int parent, int name, int kind) {
        String call = "create(" + parent + ", " + name + ", " + kind + ")";
        List<String> before = Checks.stateOf(x);
        is.due(call, want, x.create(parent, name, kind));
        is.same(call, before, Checks.stateOf(x));
    }

    private static void createRefusesInOrder() {
        DumpLevels x = full();
        x.dump(0);
        x.restoreApply(0);
        refusedCreate(x, -1, 99, 0, 3);
        refusedCreate(x, -1, 0, 10, 0);
        refusedCreate(x, -1, 0, 200, FREE);
        refusedCreate(x, -2, 6, 0, FILE);
        refusedCreate(x, -2, -1, 300, DIR);
        refusedCreate(x, -2, 2, 0, FILE);
        refusedCreate(x, -2, 4, 200, DIR);
        refusedCreate(x, -3, 0, 0, FILE);
        refusedCreate(x, -3, 0, 256, DIR);
        refusedCreate(x, -4, 0, 10, FILE);
        refusedCreate(x, -4, 0, 14, DIR);
        refusedCreate(x, -4, 1, 12, FILE);
        refusedCreate(x, -5, 0, 12, FILE);
        refusedCreate(x, -5, 1, 10, DIR);
        x.remove(5);
        refusedCreate(x, -2, 5, 1, FILE);
        is.due("create of a name that was freed", 5, x.create(0, 14, DIR));
        is.due("a free name and a free inode", 0, x.remove(5));
        is.due("create(0, 1, FILE)", 5, x.create(0, 1, FILE));
    }

    private static void createRefusesWildArguments() {
        DumpLevels x = new DumpLevels(16, 8);
        for (int wild : Checks.WILD) {
            refusedCreate(x, -1, 0, 1, wild);
            refusedCreate(x, -2, wild, 1, FILE);
            refusedCreate(x, -3, 0, wild, DIR);
        }
        refusedCreate(x, -1, 0, 1, 3);
        refusedCreate(x, -2, 16, 1, FILE);
        refusedCreate(x, -2, 15, 1, FILE);
    }

    // Promise 3

    private static void writeSetsContentAndStamp() {
        DumpLevels x = full();
        x.dump(0);
        x.restoreApply(0);
        int[] values = {5, 5, 0, -1, MIN, MAX};
        int clock = 7;
        for (int value : values) {
            List<String> before = Checks.stateOf(x);
            is.due("write(3, " + value + ")", 0, x.write(3, value));
            clock++;
            is.sameBut("write", before, Checks.stateOf(x), "inode 3", "clock");
            is.live(x, 3, FILE, 1, 12, value, clock);
            is.due("getClock()", clock, x.getClock());
        }
        is.due("write to the last inode", 0, x.write(5, 8));
        is.live(x, 5, FILE, 0, 14, 8, clock + 1);
    }

    private static void refusedWrite(DumpLevels x, int want, int inode) {
        List<String> before = Checks.stateOf(x);
        is.due("write(" + inode + ", 1)", want, x.write(inode, 1));
        is.same("write(" + inode + ", 1)", before, Checks.stateOf(x));
    }

    private static void writeRefuses() {
        DumpLevels x = full();
        x.remove(3);
        refusedWrite(x, -6, 0);
        refusedWrite(x, -6, 3);
        refusedWrite(x, -6, 6);
        refusedWrite(x, -1, 1);
        for (int wild : Checks.WILD) {
            refusedWrite(x, -6, wild);
        }
    }

    // Promise 4

    private static void removeFreesTheInode() {
        DumpLevels x = full();
        x.write(5, 3);
        x.dump(0);
        x.restoreApply(0);
        for (int inode : new int[] {2, 3, 1, 5}) {
            List<String> before = Checks.stateOf(x);
            is.due("remove(" + inode + ")", 0, x.remove(inode));
            is.sameBut("remove", before, Checks.stateOf(x), "inode " + inode);
            is.live(x, inode, FREE, 0, 0, 0, 0);
        }
        is.due("create in a freed inode", 1, x.create(0, 20, FILE));
        is.live(x, 1, FILE, 0, 20, 0, 9);
        is.due("create in a written and freed inode", 2, x.create(0, 21, FILE));
        is.live(x, 2, FILE, 0, 21, 0, 10);
    }

    private static void refusedRemove(DumpLevels x, int want, int inode) {
        List<String> before = Checks.stateOf(x);
        is.due("remove(" + inode + ")", want, x.remove(inode));
        is.same("remove(" + inode + ")", before, Checks.stateOf(x));
    }

    private static void removeRefuses() {
        DumpLevels x = full();
        refusedRemove(x, -7, 1);
        x.remove(2);
        refusedRemove(x, -7, 1);
        refusedRemove(x, -6, 2);
        refusedRemove(x, -6, 0);
        refusedRemove(x, -6, 6);
        for (int wild : Checks.WILD) {
            refusedRemove(x, -6, wild);
        }
        x.rename(3, 0, 3);
        is.due("remove of the directory that was moved empty", 0, x.remove(1));
        refusedRemove(x, -6, 1);
        DumpLevels bare = new DumpLevels(4, 2);
        refusedRemove(bare, -6, 0);
        DumpLevels last = new DumpLevels(4, 2);
        last.create(0, 1, DIR);
        last.create(0, 2, FILE);
        last.create(1, 3, DIR);
        refusedRemove(last, -7, 1);
    }

    // Promise 5

    private static void renames(DumpLevels x, int inode, int newParent, int newName) {
        String call = "rename(" + inode + ", " + newParent + ", " + newName + ")";
        int[] was = new int[5];
        for (int what = 0; what < 5; what++) {
            was[what] = x.inodeInfo(inode, what);
        }
        List<String> before = Checks.stateOf(x);
        is.due(call, 0, x.rename(inode, newParent, newName));
        is.sameBut(call, before, Checks.stateOf(x), "inode " + inode);
        is.live(x, inode, was[0], newParent, newName, was[3], was[4]);
    }

    private static void renameMoves() {
        DumpLevels x = full();
        x.dump(0);
        x.restoreApply(0);
        renames(x, 2, 1, 1);
        renames(x, 2, 0, 255);
        renames(x, 2, 0, 255);
        renames(x, 4, 1, 13);
        renames(x, 1, 0, 11);
        renames(x, 1, 0, 11);
        renames(x, 5, 1, 11);
        is.due("lookup(0, 14)", -1, x.lookup(0, 14));
        is.due("lookup(1, 11)", 5, x.lookup(1, 11));
        x.remove(3);
        is.due("create(1, 40, DIR)", 3, x.create(1, 40, DIR));
        renames(x, 3, 0, 40);
        renames(x, 1, 3, 1);
        renames(x, 5, 3, 2);
    }

    private static void refusedRename(DumpLevels x, int want, int inode, int newParent, int newName) {
        String call = "rename(" + inode + ", " + newParent + ", " + newName + ")";
        List<String> before = Checks.stateOf(x);
        is.due(call, want, x.rename(inode, newParent, newName));
        is.same(call, before, Checks.stateOf(x));
    }

    private static void renameRefusesInOrder() {
        DumpLevels x = full();
        x.remove(5);
        refusedRename(x, -6, 0, 99, 0);
        refusedRename(x, -6, 0, 1, 1);
        refusedRename(x, -6, 5, 1, 1);
        refusedRename(x, -6, 6, 0, 1);
        refusedRename(x, -2, 1, 6, 0);
        refusedRename(x, -2, 2, 5, 256);
        refusedRename(x, -2, 2, 4, 1);
        refusedRename(x, -2, 2, 2, 1);
        refusedRename(x, -3, 1, 1, 0);
        refusedRename(x, -3, 2, 0, 256);
        refusedRename(x, -3, 2, 0, 0);
        refusedRename(x, -8, 1, 1, 10);
        refusedRename(x, -8, 1, 1, 11);
        refusedRename(x, -4, 2, 1, 12);
        refusedRename(x, -4, 2, 0, 13);
        refusedRename(x, -4, 1, 0, 13);
        refusedRename(x, -4, 4, 0, 10);
        for (int wild : Checks.WILD) {
            refusedRename(x, -6, wild, 0, 1);
            refusedRename(x, -2, 2, wild, 1);
            refusedRename(x, -3, 2, 0, wild);
        }
    }

    private static void renameSeesCyclesAtAnyDepth() {
        for (int n = 4; n <= 16; n++) {
            DumpLevels x = new DumpLevels(n, 2);
            for (int i = 1; i < n; i++) {
                is.due("create of a deeper directory", i, x.create(i - 1, 7, DIR));
            }
            for (int top = 1; top < n; top++) {
                for (int below = top; below < n; below++) {
                    refusedRename(x, -8, top, below, 7);
                    refusedRename(x, -8, top, below, 9);
                }
            }
            renames(x, n - 1, 0, 9);
            renames(x, 1, n - 1, 7);
            refusedRename(x, -8, n - 1, n - 2, 7);
            refusedRename(x, -8, 1, n - 2, 7);
        }
    }

    // Promise 6

    private static void lookupFindsEntries() {
        DumpLevels x = full();
        is.due("create with the name of another directory's entry", -5, x.create(0, 11, FILE));
        x.remove(5);
        x.create(0, 11, FILE);
        List<String> before = Checks.stateOf(x);
        is.due("lookup(0, 10)", 1, x.lookup(0, 10));
        is.due("lookup(1, 11)", 2, x.lookup(1, 11));
        is.due("lookup(1, 12)", 3, x.lookup(1, 12));
        is.due("lookup(0, 13)", 4, x.lookup(0, 13));
        is.due("lookup(0, 11)", 5, x.lookup(0, 11));
        is.due("lookup(0, 12)", -1, x.lookup(0, 12));
        is.due("lookup(1, 10)", -1, x.lookup(1, 10));
        is.due("lookup in a file", -1, x.lookup(2, 11));
        is.due("lookup(6, 11)", -1, x.lookup(6, 11));
        for (int name : new int[] {0, 1, 255, 256}) {
            is.due("lookup(0, " + name + ")", -1, x.lookup(0, name));
        }
        for (int wild : Checks.WILD) {
            is.due("lookup(" + wild + ", 10)", -1, x.lookup(wild, 10));
            is.due("lookup(0, " + wild + ")", -1, x.lookup(0, wild));
        }
        is.same("lookup", before, Checks.stateOf(x));
        x.remove(2);
        is.due("lookup of what was removed", -1, x.lookup(1, 11));
        is.due("lookup in a free inode", -1, x.lookup(2, 11));
        DumpLevels bare = new DumpLevels(4, 2);
        is.due("lookup of the root or a free inode by its name", -1, bare.lookup(0, 0));
        bare.create(0, 1, FILE);
        bare.create(0, 255, FILE);
        is.due("lookup(0, 1)", 1, bare.lookup(0, 1));
        is.due("lookup(0, 255)", 2, bare.lookup(0, 255));
    }

    // Promise 7

    private static void inodeInfoAnswersFields() {
        DumpLevels x = full();
        x.remove(5);
        List<String> before = Checks.stateOf(x);
        is.live(x, 0, DIR, 0, 0, 0, 0);
        is.live(x, 1, DIR, 0, 10, 0, 1);
        is.live(x, 2, FILE, 1, 11, 77, 6);
        is.live(x, 3, FILE, 1, 12, 0, 3);
        is.live(x, 5, FREE, 0, 0, 0, 0);
        for (int what = 0; what < 5; what++) {
            is.due("inodeInfo(6, " + what + ")", -1, x.inodeInfo(6, what));
            for (int wild : Checks.WILD) {
                is.due("inodeInfo(" + wild + ", " + what + ")", -1, x.inodeInfo(wild, what));
            }
        }
        for (int inode = 0; inode < 6; inode++) {
            is.due("inodeInfo(" + inode + ", CAPTURED)", -1, x.inodeInfo(inode, 5));
            for (int wild : Checks.WILD) {
                is.due("inodeInfo(" + inode + ", " + wild + ")", -1, x.inodeInfo(inode, wild));
            }
        }
        is.same("inodeInfo", before, Checks.stateOf(x));
    }

    // Promise 8

    private static void clockCountsCreatesWritesAndDumps() {
        DumpLevels x = new DumpLevels(4, 2);
        is.due("getClock()", 0, x.getClock());
        x.create(0, 1, FILE);
        is.due("getClock() after create", 1, x.getClock());
        is.due("getClock() again", 1, x.getClock());
        x.write(1, 0);
        is.due("getClock() after write", 2, x.getClock());
        x.dump(9);
        is.due("getClock() after dump", 3, x.getClock());
        x.rename(1, 0, 2);
        x.restoreApply(0);
        x.restoreReset();
        x.remove(1);
        is.due("getClock() after rename, restore and remove", 3, x.getClock());
    }
}
