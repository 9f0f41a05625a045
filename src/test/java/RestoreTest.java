import java.util.List;

/** Promises 13 to 17: the restored file system. */
public final class RestoreTest {
    private static final int FREE = 0;
    private static final int FILE = 1;
    private static final int DIR = 2;

    private static final Checks is = new Checks();

    public static void main(String[] args) {
        resetEmptiesTheRestoredSide();
        resetChangesNothingElse();
        applyRestoresAFullDump();
        applyKeepsWhatWasNotCaptured();
        applyFreesWhatWasRemoved();
        applyRenewsAnInodeTakenAgain();
        applyRefusesInOrder();
        applyAnswersOkOnlyOnTheBase();
        applyTakesALeveledDumpWithoutABase();
        longestChain();
        restoreStampAnswers();
        restoredInfoAnswers();
        matchesSeesEveryField();
        matchesSeesTheFirstAndTheLastInode();
        is.end();
    }

    /**
     * Inode 1 is a directory, 2 a written file in it, 3 a file in the root. Dump 0 (level 0, stamp 5) has
     * these. Then 2 is moved, 3 written, 4 created; dump 1 (level 1, stamp 8, base 5) has that.
     */
    private static DumpLevels twoDumps() {
        DumpLevels x = new DumpLevels(5, 8);
        x.create(0, 10, DIR);
        x.create(1, 11, FILE);
        x.create(0, 12, FILE);
        x.write(2, -6);
        x.dump(0);
        x.rename(2, 0, 99);
        x.write(3, 50);
        x.create(1, 13, FILE);
        x.dump(1);
        return x;
    }

    // Promise 13

    private static void onlyRootIsRestored(DumpLevels x, int inodes) {
        is.restored(x, 0, DIR, 0, 0, 0, 0);
        for (int i = 1; i < inodes; i++) {
            is.restored(x, i, FREE, 0, 0, 0, 0);
        }
        is.due("restoreStamp()", 0, x.restoreStamp());
    }

    private static void resetEmptiesTheRestoredSide() {
        DumpLevels x = new DumpLevels(16, 2);
        x.restoreReset();
        onlyRootIsRestored(x, 16);
        for (int i = 1; i < 16; i++) {
            x.create(i == 1 ? 0 : 1, i, i == 1 ? DIR : FILE);
            x.write(i, 1000 + i);
        }
        x.dump(0);
        is.due("restoreApply(0)", 0, x.restoreApply(0));
        x.restoreReset();
        onlyRootIsRestored(x, 16);
        x.restoreReset();
        onlyRootIsRestored(x, 16);
        is.due("restoreApply(0) after the reset", 0, x.restoreApply(0));
        is.due("restoreMatches()", true, x.restoreMatches());
    }

    private static void resetChangesNothingElse() {
        DumpLevels x = twoDumps();
        x.restoreApply(0);
        x.restoreApply(1);
        List<String> before = Checks.stateOf(x);
        x.restoreReset();
        is.sameBut("restoreReset()", before, Checks.stateOf(x), "restored", "restoreStamp");
    }

    // Promise 14

    private static void applies(DumpLevels x, int d) {
        List<String> before = Checks.stateOf(x);
        is.due("restoreApply(" + d + ")", 0, x.restoreApply(d));
        is.sameBut("restoreApply(" + d + ")", before, Checks.stateOf(x), "restored", "restoreStamp");
        is.due("restoreStamp()", x.dumpInfo(d, 1), x.restoreStamp());
    }

    private static void applyRestoresAFullDump() {
        DumpLevels x = twoDumps();
        applies(x, 0);
        is.restored(x, 0, DIR, 0, 0, 0, 0);
        is.restored(x, 1, DIR, 0, 10, 0, 1);
        is.restored(x, 2, FILE, 1, 11, -6, 4);
        is.restored(x, 3, FILE, 0, 12, 0, 3);
        is.restored(x, 4, FREE, 0, 0, 0, 0);
        is.due("restoreMatches()", false, x.restoreMatches());
    }

    private static void applyKeepsWhatWasNotCaptured() {
        DumpLevels x = twoDumps();
        applies(x, 0);
        applies(x, 1);
        is.restored(x, 0, DIR, 0, 0, 0, 0);
        is.restored(x, 1, DIR, 0, 10, 0, 1);
        is.restored(x, 2, FILE, 0, 99, -6, 4);
        is.restored(x, 3, FILE, 0, 12, 50, 6);
        is.restored(x, 4, FILE, 1, 13, 0, 7);
        is.due("restoreMatches()", true, x.restoreMatches());
    }

    private static void applyFreesWhatWasRemoved() {
        DumpLevels x = twoDumps();
        x.remove(2);
        x.remove(3);
        x.dump(2);
        applies(x, 0);
        applies(x, 1);
        applies(x, 2);
        is.restored(x, 2, FREE, 0, 0, 0, 0);
        is.restored(x, 3, FREE, 0, 0, 0, 0);
        is.restored(x, 4, FILE, 1, 13, 0, 7);
        is.due("restoreMatches()", true, x.restoreMatches());
    }

    private static void applyRenewsAnInodeTakenAgain() {
        DumpLevels x = twoDumps();
        x.remove(2);
        x.create(0, 11, DIR);
        x.dump(2);
        applies(x, 0);
        applies(x, 1);
        applies(x, 2);
        is.restored(x, 2, DIR, 0, 11, 0, 9);
        is.due("restoreMatches()", true, x.restoreMatches());
    }

    private static void refusedApply(DumpLevels x, int want, int d) {
        List<String> before = Checks.stateOf(x);
        is.due("restoreApply(" + d + ")", want, x.restoreApply(d));
        is.same("restoreApply(" + d + ")", before, Checks.stateOf(x));
    }

    private static void applyRefusesInOrder() {
        DumpLevels bare = new DumpLevels(4, 2);
        refusedApply(bare, -10, 0);
        DumpLevels x = twoDumps();
        refusedApply(x, -11, 1);
        applies(x, 0);
        refusedApply(x, -11, 0);
        refusedApply(x, -10, 2);
        refusedApply(x, -10, 8);
        applies(x, 1);
        refusedApply(x, -11, 0);
        refusedApply(x, -11, 1);
        for (int wild : Checks.WILD) {
            refusedApply(x, -10, wild);
        }
        x.restoreReset();
        refusedApply(x, -11, 1);
        refusedApply(x, -10, -1);
        refusedApply(x, -10, 2);
    }

    /** Every sequence of up to four applies over dumps of many levels, with a reset between. */
    private static void applyAnswersOkOnlyOnTheBase() {
        DumpLevels x = new DumpLevels(6, 8);
        x.create(0, 1, FILE);
        for (int level : new int[] {3, 0, 5, 4, 5, 1, 9, 2}) {
            x.write(1, level);
            x.dump(level);
        }
        for (int code = 0; code < 4096; code++) {
            x.restoreReset();
            for (int digit = 0; digit < 4; digit++) {
                int d = (code >> (3 * digit)) & 7;
                boolean fits = x.dumpInfo(d, 2) == x.restoreStamp();
                int stamp = fits ? x.dumpInfo(d, 1) : x.restoreStamp();
                int content = fits ? x.dumpEntry(d, 1, 3) : x.restoredInfo(1, 3);
                is.due("restoreApply(" + d + ")", fits ? 0 : -11, x.restoreApply(d));
                is.due("restoreStamp()", stamp, x.restoreStamp());
                is.due("restoredInfo(1, CONTENT)", content, x.restoredInfo(1, 3));
            }
        }
    }

    private static void applyTakesALeveledDumpWithoutABase() {
        DumpLevels x = new DumpLevels(4, 3);
        x.create(0, 1, FILE);
        x.write(1, 3);
        x.dump(6);
        x.write(1, 4);
        x.dump(6);
        x.dump(7);
        applies(x, 1);
        is.restored(x, 1, FILE, 0, 1, 4, 4);
        is.due("restoreMatches()", true, x.restoreMatches());
        refusedApply(x, -11, 0);
        applies(x, 2);
        is.due("restoreMatches()", true, x.restoreMatches());
        x.restoreReset();
        applies(x, 0);
        is.restored(x, 1, FILE, 0, 1, 3, 2);
        refusedApply(x, -11, 2);
    }

    private static void longestChain() {
        DumpLevels x = new DumpLevels(16, 8);
        for (int i = 1; i < 16; i++) {
            x.create(i == 15 ? 14 : 0, i, i == 14 ? DIR : FILE);
            x.write(i, -i);
        }
        for (int d = 0; d < 8; d++) {
            x.write(d + 1, 70 + d);
            x.rename(d + 2, 14, 100 + d);
            x.dump(d + 2);
        }
        for (int d = 0; d < 8; d++) {
            is.due("restoreMatches()", false, x.restoreMatches());
            applies(x, d);
        }
        is.due("restoreMatches()", true, x.restoreMatches());
    }

    // Promise 15

    private static void restoreStampAnswers() {
        DumpLevels x = twoDumps();
        is.due("restoreStamp() at the start", 0, x.restoreStamp());
        x.restoreApply(0);
        is.due("restoreStamp() after dump 0", 5, x.restoreStamp());
        x.restoreApply(0);
        is.due("restoreStamp() after a refused apply", 5, x.restoreStamp());
        x.write(3, 1);
        x.dump(1);
        is.due("restoreStamp() after a write and a dump", 5, x.restoreStamp());
        x.restoreApply(2);
        is.due("restoreStamp() after dump 2", 10, x.restoreStamp());
        List<String> before = Checks.stateOf(x);
        is.due("restoreStamp() again", 10, x.restoreStamp());
        is.same("restoreStamp()", before, Checks.stateOf(x));
        x.restoreReset();
        is.due("restoreStamp() after the reset", 0, x.restoreStamp());
    }

    // Promise 16

    private static void restoredInfoAnswers() {
        DumpLevels x = twoDumps();
        x.restoreApply(0);
        x.restoreApply(1);
        x.write(2, 7);
        x.remove(4);
        x.rename(3, 1, 1);
        List<String> before = Checks.stateOf(x);
        is.restored(x, 0, DIR, 0, 0, 0, 0);
        is.restored(x, 1, DIR, 0, 10, 0, 1);
        is.restored(x, 2, FILE, 0, 99, -6, 4);
        is.restored(x, 3, FILE, 0, 12, 50, 6);
        is.restored(x, 4, FILE, 1, 13, 0, 7);
        for (int what = 0; what < 5; what++) {
            is.due("restoredInfo(5, " + what + ")", -1, x.restoredInfo(5, what));
            is.due("restoredInfo(16, " + what + ")", -1, x.restoredInfo(16, what));
            for (int wild : Checks.WILD) {
                is.due("restoredInfo(" + wild + ", " + what + ")", -1, x.restoredInfo(wild, what));
            }
        }
        for (int inode = 0; inode < 5; inode++) {
            is.due("restoredInfo(" + inode + ", CAPTURED)", -1, x.restoredInfo(inode, 5));
            for (int wild : Checks.WILD) {
                is.due("restoredInfo(" + inode + ", " + wild + ")", -1, x.restoredInfo(inode, wild));
            }
        }
        is.same("restoredInfo", before, Checks.stateOf(x));
    }

    // Promise 17

    private static DumpLevels matching() {
        DumpLevels x = twoDumps();
        x.restoreApply(0);
        x.restoreApply(1);
        List<String> before = Checks.stateOf(x);
        is.due("restoreMatches()", true, x.restoreMatches());
        is.same("restoreMatches()", before, Checks.stateOf(x));
        return x;
    }

    private static void matchesSeesEveryField() {
        DumpLevels x = matching();
        x.rename(2, 0, 98);
        is.due("restoreMatches() with another NAME", false, x.restoreMatches());
        x.rename(2, 0, 99);
        is.due("restoreMatches() with the NAME back", true, x.restoreMatches());
        x.rename(2, 1, 99);
        is.due("restoreMatches() with another PARENT", false, x.restoreMatches());
        x.rename(2, 0, 99);
        x.write(3, 50);
        is.due("restoreMatches() with another STAMP alone", false, x.restoreMatches());
        x = matching();
        x.dump(2);
        is.due("restoreMatches() after a dump", true, x.restoreMatches());
        x.remove(4);
        is.due("restoreMatches() with an inode free", false, x.restoreMatches());
        x.restoreApply(2);
        is.due("restoreMatches() after one more apply", false, x.restoreMatches());
        x.restoreReset();
        is.due("restoreMatches() after the reset", false, x.restoreMatches());
    }

    private static void matchesSeesTheFirstAndTheLastInode() {
        for (int inode = 1; inode < 16; inode++) {
            DumpLevels x = new DumpLevels(16, 2);
            for (int i = 1; i < 16; i++) {
                x.create(0, i, FILE);
            }
            x.dump(0);
            x.restoreApply(0);
            is.due("restoreMatches()", true, x.restoreMatches());
            x.rename(inode, 0, 100);
            is.due("restoreMatches() with inode " + inode + " renamed", false, x.restoreMatches());
        }
        DumpLevels bare = new DumpLevels(4, 2);
        bare.create(0, 1, FILE);
        is.due("restoreMatches() of an empty restore and a file", false, bare.restoreMatches());
        bare.remove(1);
        is.due("restoreMatches() with the file removed", true, bare.restoreMatches());
    }
}
