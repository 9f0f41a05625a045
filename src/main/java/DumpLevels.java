/**
 * A small inode file system with leveled incremental dumps, and a second file
 * system into which chains of those dumps are restored.
 */
public final class DumpLevels {
    public static final int KIND_FREE = 0;
    public static final int KIND_FILE = 1;
    public static final int KIND_DIR = 2;

    public static final int FIELD_KIND = 0;
    public static final int FIELD_PARENT = 1;
    public static final int FIELD_NAME = 2;
    public static final int FIELD_CONTENT = 3;
    public static final int FIELD_STAMP = 4;
    public static final int FIELD_CAPTURED = 5;

    public static final int DUMP_LEVEL = 0;
    public static final int DUMP_STAMP = 1;
    public static final int DUMP_BASE = 2;
    public static final int DUMP_CAPTURED = 3;

    public static final int OK = 0;
    public static final int ERR_KIND = -1;
    public static final int ERR_PARENT = -2;
    public static final int ERR_NAME = -3;
    public static final int ERR_EXISTS = -4;
    public static final int ERR_FULL = -5;
    public static final int ERR_INODE = -6;
    public static final int ERR_NOT_EMPTY = -7;
    public static final int ERR_CYCLE = -8;
    public static final int ERR_LEVEL = -9;
    public static final int ERR_NO_DUMP = -10;
    public static final int ERR_CHAIN = -11;

    private static final int MIN_INODES = 4;
    private static final int MAX_INODES = 16;
    private static final int MIN_DUMPS = 2;
    private static final int MAX_DUMPS = 8;
    // One entry for every inode of every dump: MAX_DUMPS * MAX_INODES.
    private static final int MAX_ENTRIES = 128;
    private static final int LEVELS = 10;
    private static final int MIN_NAME = 1;
    private static final int MAX_NAME = 255;
    private static final int ROOT = 0;
    private static final int NONE = -1;

    private final int inodeCount;
    private final int dumpLimit;

    private int clock;
    private final int[] liveKind = new int[MAX_INODES];
    private final int[] liveParent = new int[MAX_INODES];
    private final int[] liveName = new int[MAX_INODES];
    private final int[] liveContent = new int[MAX_INODES];
    private final int[] liveStamp = new int[MAX_INODES];

    private int dumpsTaken;
    private final int[] dumpLevels = new int[MAX_DUMPS];
    private final int[] dumpStamps = new int[MAX_DUMPS];
    private final int[] dumpBases = new int[MAX_DUMPS];
    private final int[] dumpCaptures = new int[MAX_DUMPS];
    private final int[] dumpDates = new int[LEVELS];

    // What dump d recorded of inode i stands at entryIndex(d, i).
    private final int[] entryKind = new int[MAX_ENTRIES];
    private final int[] entryParent = new int[MAX_ENTRIES];
    private final int[] entryName = new int[MAX_ENTRIES];
    private final int[] entryContent = new int[MAX_ENTRIES];
    private final int[] entryStamp = new int[MAX_ENTRIES];
    private final int[] entryCaptured = new int[MAX_ENTRIES];

    private int appliedStamp;
    private final int[] restoredKind = new int[MAX_INODES];
    private final int[] restoredParent = new int[MAX_INODES];
    private final int[] restoredName = new int[MAX_INODES];
    private final int[] restoredContent = new int[MAX_INODES];
    private final int[] restoredStamp = new int[MAX_INODES];

    public DumpLevels(int inodes, int dumps) {
        inodeCount = clamp(inodes, MIN_INODES, MAX_INODES);
        dumpLimit = clamp(dumps, MIN_DUMPS, MAX_DUMPS);
        liveKind[ROOT] = KIND_DIR;
        restoredKind[ROOT] = KIND_DIR;
    }

    public int create(int parent, int name, int kind) {
        if (kind != KIND_FILE && kind != KIND_DIR) {
            return ERR_KIND;
        }
        if (!isLiveDirectory(parent)) {
            return ERR_PARENT;
        }
        if (!isName(name)) {
            return ERR_NAME;
        }
        if (findEntry(parent, name) != NONE) {
            return ERR_EXISTS;
        }
        int inode = lowestFreeInode();
        if (inode == NONE) {
            return ERR_FULL;
        }
        clock++;
        liveKind[inode] = kind;
        liveParent[inode] = parent;
        liveName[inode] = name;
        liveContent[inode] = 0;
        liveStamp[inode] = clock;
        return inode;
    }

    public int write(int inode, int value) {
        if (!isChangeable(inode)) {
            return ERR_INODE;
        }
        if (liveKind[inode] == KIND_DIR) {
            return ERR_KIND;
        }
        clock++;
        liveContent[inode] = value;
        liveStamp[inode] = clock;
        return OK;
    }

    public int remove(int inode) {
        if (!isChangeable(inode)) {
            return ERR_INODE;
        }
        if (hasEntries(inode)) {
            return ERR_NOT_EMPTY;
        }
        liveKind[inode] = KIND_FREE;
        liveParent[inode] = 0;
        liveName[inode] = 0;
        liveContent[inode] = 0;
        liveStamp[inode] = 0;
        return OK;
    }

    public int rename(int inode, int newParent, int newName) {
        if (!isChangeable(inode)) {
            return ERR_INODE;
        }
        if (!isLiveDirectory(newParent)) {
            return ERR_PARENT;
        }
        if (!isName(newName)) {
            return ERR_NAME;
        }
        if (isAtOrBelow(newParent, inode)) {
            return ERR_CYCLE;
        }
        int holder = findEntry(newParent, newName);
        // The inode itself may hold the place already: that rename succeeds.
        if (holder != NONE && holder != inode) {
            return ERR_EXISTS;
        }
        liveParent[inode] = newParent;
        liveName[inode] = newName;
        return OK;
    }

    public int lookup(int parent, int name) {
        if (!isInode(parent) || !isName(name)) {
            return NONE;
        }
        return findEntry(parent, name);
    }

    public int inodeInfo(int inode, int what) {
        if (!isInode(inode)) {
            return NONE;
        }
        return chooseField(what, liveKind[inode], liveParent[inode], liveName[inode],
                liveContent[inode], liveStamp[inode]);
    }

    public int getClock() {
        return clock;
    }

    public int dump(int level) {
        if (!isLevel(level)) {
            return ERR_LEVEL;
        }
        if (dumpsTaken >= dumpLimit) {
            return ERR_FULL;
        }
        int d = dumpsTaken;
        clock++;
        dumpLevels[d] = level;
        dumpStamps[d] = clock;
        dumpBases[d] = latestDateBelow(level);
        dumpCaptures[d] = recordEntries(d);
        dumpDates[level] = clock;
        dumpsTaken++;
        return d;
    }

    public int dumpInfo(int d, int what) {
        if (!isTaken(d)) {
            return NONE;
        }
        switch (what) {
            case DUMP_LEVEL:
                return dumpLevels[d];
            case DUMP_STAMP:
                return dumpStamps[d];
            case DUMP_BASE:
                return dumpBases[d];
            case DUMP_CAPTURED:
                return dumpCaptures[d];
            default:
                return NONE;
        }
    }

    public int dumpEntry(int d, int inode, int what) {
        if (!isTaken(d) || !isInode(inode)) {
            return NONE;
        }
        int at = entryIndex(d, inode);
        if (what == FIELD_CAPTURED) {
            return entryCaptured[at];
        }
        return chooseField(what, entryKind[at], entryParent[at], entryName[at],
                entryContent[at], entryStamp[at]);
    }

    public int dumpDate(int level) {
        if (!isLevel(level)) {
            return NONE;
        }
        return dumpDates[level];
    }

    public void restoreReset() {
        for (int i = 0; i < inodeCount; i++) {
            restoredKind[i] = KIND_FREE;
            restoredParent[i] = 0;
            restoredName[i] = 0;
            restoredContent[i] = 0;
            restoredStamp[i] = 0;
        }
        restoredKind[ROOT] = KIND_DIR;
        appliedStamp = 0;
    }

    public int restoreApply(int d) {
        if (!isTaken(d)) {
            return ERR_NO_DUMP;
        }
        if (dumpBases[d] != appliedStamp) {
            return ERR_CHAIN;
        }
        for (int i = 0; i < inodeCount; i++) {
            restoreInode(d, i);
        }
        appliedStamp = dumpStamps[d];
        return OK;
    }

    public int restoreStamp() {
        return appliedStamp;
    }

    public int restoredInfo(int inode, int what) {
        if (!isInode(inode)) {
            return NONE;
        }
        return chooseField(what, restoredKind[inode], restoredParent[inode], restoredName[inode],
                restoredContent[inode], restoredStamp[inode]);
    }

    public boolean restoreMatches() {
        for (int i = 0; i < inodeCount; i++) {
            if (!isRestoredAsLive(i)) {
                return false;
            }
        }
        return true;
    }

    private static int clamp(int value, int least, int greatest) {
        if (value < least) {
            return least;
        }
        if (value > greatest) {
            return greatest;
        }
        return value;
    }

    private boolean isInode(int inode) {
        return inode >= 0 && inode < inodeCount;
    }

    // The root is no changeable inode: no call ever changes it.
    private boolean isChangeable(int inode) {
        return isInode(inode) && inode != ROOT && liveKind[inode] != KIND_FREE;
    }

    private boolean isLiveDirectory(int inode) {
        return isInode(inode) && liveKind[inode] == KIND_DIR;
    }

    private static boolean isName(int name) {
        return name >= MIN_NAME && name <= MAX_NAME;
    }

    private static boolean isLevel(int level) {
        return level >= 0 && level < LEVELS;
    }

    private boolean isTaken(int d) {
        return d >= 0 && d < dumpsTaken;
    }

    // The root is an entry of no directory, though its PARENT is 0.
    private boolean isEntryOf(int inode, int directory) {
        return inode != ROOT && liveKind[inode] != KIND_FREE && liveParent[inode] == directory;
    }

    private int findEntry(int directory, int name) {
        for (int i = 0; i < inodeCount; i++) {
            if (isEntryOf(i, directory) && liveName[i] == name) {
                return i;
            }
        }
        return NONE;
    }

    private boolean hasEntries(int directory) {
        for (int i = 0; i < inodeCount; i++) {
            if (isEntryOf(i, directory)) {
                return true;
            }
        }
        return false;
    }

    private int lowestFreeInode() {
        for (int i = 0; i < inodeCount; i++) {
            if (liveKind[i] == KIND_FREE) {
                return i;
            }
        }
        return NONE;
    }

    // No path to the root is longer than the number of inodes, so that many steps see it all.
    private boolean isAtOrBelow(int start, int inode) {
        int at = start;
        for (int step = 0; step < inodeCount; step++) {
            if (at == inode) {
                return true;
            }
            at = liveParent[at];
        }
        return false;
    }

    private int latestDateBelow(int level) {
        int latest = 0;
        for (int l = 0; l < level; l++) {
            if (dumpDates[l] > latest) {
                latest = dumpDates[l];
            }
        }
        return latest;
    }

    private static int entryIndex(int d, int inode) {
        return d * MAX_INODES + inode;
    }

    /** Records every inode into dump d and answers how many were captured. */
    private int recordEntries(int d) {
        int captured = 0;
        for (int i = 0; i < inodeCount; i++) {
            int at = entryIndex(d, i);
            entryKind[at] = liveKind[i];
            entryParent[at] = liveParent[i];
            entryName[at] = liveName[i];
            if (isNewerThan(i, dumpBases[d])) {
                entryContent[at] = liveContent[i];
                entryStamp[at] = liveStamp[i];
                entryCaptured[at] = 1;
                captured++;
            }
        }
        return captured;
    }

    private boolean isNewerThan(int inode, int base) {
        return isChangeable(inode) && liveStamp[inode] > base;
    }

    private void restoreInode(int d, int inode) {
        int at = entryIndex(d, inode);
        restoredKind[inode] = entryKind[at];
        restoredParent[inode] = entryParent[at];
        restoredName[inode] = entryName[at];
        // An inode in use that was not captured has not changed since the base, so it keeps
        // what the dumps before this one restored. A free one recorded 0 for both.
        if (entryCaptured[at] == 1 || entryKind[at] == KIND_FREE) {
            restoredContent[inode] = entryContent[at];
            restoredStamp[inode] = entryStamp[at];
        }
    }

    private boolean isRestoredAsLive(int inode) {
        return restoredKind[inode] == liveKind[inode]
                && restoredParent[inode] == liveParent[inode]
                && restoredName[inode] == liveName[inode]
                && restoredContent[inode] == liveContent[inode]
                && restoredStamp[inode] == liveStamp[inode];
    }

    private static int chooseField(int what, int kind, int parent, int name, int content, int stamp) {
        switch (what) {
            case FIELD_KIND:
                return kind;
            case FIELD_PARENT:
                return parent;
            case FIELD_NAME:
                return name;
            case FIELD_CONTENT:
                return content;
            case FIELD_STAMP:
                return stamp;
            default:
                return NONE;
        }
    }
}
