import java.util.ArrayList;
import java.util.List;

/** The document's constants as its words give them, its calls, and arguments at and beyond their ranges. */
abstract class Calls {
    static final int FREE = 0;
    static final int FILE = 1;
    static final int DIR = 2;

    static final int KIND = 0;
    static final int PARENT = 1;
    static final int NAME = 2;
    static final int CONTENT = 3;
    static final int STAMP = 4;
    static final int CAPTURED = 5;

    static final int DUMP_LEVEL = 0;
    static final int DUMP_STAMP = 1;
    static final int DUMP_BASE = 2;
    static final int DUMP_CAPTURED = 3;

    static final int OK = 0;
    static final int ERR_KIND = -1;
    static final int ERR_PARENT = -2;
    static final int ERR_NAME = -3;
    static final int ERR_EXISTS = -4;
    static final int ERR_FULL = -5;
    static final int ERR_INODE = -6;
    static final int ERR_NOT_EMPTY = -7;
    static final int ERR_CYCLE = -8;
    static final int ERR_LEVEL = -9;
    static final int ERR_NO_DUMP = -10;
    static final int ERR_CHAIN = -11;

    static final int MIN = Integer.MIN_VALUE;
    static final int MAX = Integer.MAX_VALUE;

    static Call create(int parent, int name, int kind) {
        return new Call("create(" + parent + ", " + name + ", " + kind + ")", x -> x.create(parent, name, kind));
    }

    static Call write(int inode, int value) {
        return new Call("write(" + inode + ", " + value + ")", x -> x.write(inode, value));
    }

    static Call remove(int inode) {
        return new Call("remove(" + inode + ")", x -> x.remove(inode));
    }

    static Call rename(int inode, int newParent, int newName) {
        return new Call("rename(" + inode + ", " + newParent + ", " + newName + ")",
            x -> x.rename(inode, newParent, newName));
    }

    static Call lookup(int parent, int name) {
        return new Call("lookup(" + parent + ", " + name + ")", x -> x.lookup(parent, name));
    }

    static Call inodeInfo(int inode, int what) {
        return new Call("inodeInfo(" + inode + ", " + what + ")", x -> x.inodeInfo(inode, what));
    }

    static Call getClock() {
        return new Call("getClock()", DumpLevels::getClock);
    }

    static Call dump(int level) {
        return new Call("dump(" + level + ")", x -> x.dump(level));
    }

    static Call dumpInfo(int d, int what) {
        return new Call("dumpInfo(" + d + ", " + what + ")", x -> x.dumpInfo(d, what));
    }

    static Call dumpEntry(int d, int inode, int what) {
        return new Call("dumpEntry(" + d + ", " + inode + ", " + what + ")", x -> x.dumpEntry(d, inode, what));
    }

    static Call dumpDate(int level) {
        return new Call("dumpDate(" + level + ")", x -> x.dumpDate(level));
    }

    static Call restoreReset() {
        return new Call("restoreReset()", x -> {
            x.restoreReset();
            return 0;
        });
    }

    static Call restoreApply(int d) {
        return new Call("restoreApply(" + d + ")", x -> x.restoreApply(d));
    }

    static Call restoreStamp() {
        return new Call("restoreStamp()", DumpLevels::restoreStamp);
    }

    static Call restoredInfo(int inode, int what) {
        return new Call("restoredInfo(" + inode + ", " + what + ")", x -> x.restoredInfo(inode, what));
    }

    static Call restoreMatches() {
        return new Call("restoreMatches()", x -> x.restoreMatches() ? 1 : 0);
    }

    /**
     * Values too small or too large for a range: its nearest neighbours, the ends of int, and some that a
     * mask or a cut to fewer bits would bring back into the range.
     */
    static int[] outside(int least, int greatest) {
        return new int[] {MIN, MIN + 1, MIN + greatest, least - 65536, least - 256, least - 16, least - 2, least - 1,
            greatest + 1, greatest + 2, greatest + 16, greatest + 256, greatest + 65536, MAX - 1, MAX};
    }

    /** How many inodes the object has: the first number that inodeInfo refuses. */
    static int inodesOf(DumpLevels x) {
        int n = 0;
        while (n < 1000 && x.inodeInfo(n, KIND) != -1) {
            n++;
        }
        return n;
    }

    /** How many dumps are taken: the first number that dumpInfo refuses. */
    static int dumpsOf(DumpLevels x) {
        int d = 0;
        while (d < 1000 && x.dumpInfo(d, DUMP_LEVEL) != -1) {
            d++;
        }
        return d;
    }

    /** The chain of a taken dump, first dump first, sought by BASE and STAMP alone. */
    static List<Integer> chainOf(DumpLevels x, int d) {
        List<Integer> chain = new ArrayList<>();
        int at = d;
        // No chain is longer than the dumps there are: a ninth step would be one in a circle.
        while (at != -1 && chain.size() < 9) {
            chain.add(0, at);
            int base = x.dumpInfo(at, DUMP_BASE);
            at = base == 0 ? -1 : dumpWithStamp(x, base);
        }
        return chain;
    }

    private static int dumpWithStamp(DumpLevels x, int stamp) {
        for (int d = 0; d < dumpsOf(x); d++) {
            if (x.dumpInfo(d, DUMP_STAMP) == stamp) {
                return d;
            }
        }
        throw new IllegalStateException("no dump has stamp " + stamp);
    }
}
