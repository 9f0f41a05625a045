/** A test for each sentence of promise 5: rename. */
public final class Promise05Test extends Sentences {
    public static void main(String[] args) {
        section("Promise 5");
        holds(1, "`rename(inode, newParent, newName)` moves and/or renames an inode.",
            Promise05Test::sentence1MovesAndRenames);
        holds(2, "Conditions in order:", Promise05Test::sentence2FirstConditionAnswers);
        holds(3, "`inode` is not in 1..N-1, or is free -> `ERR_INODE`;", Promise05Test::sentence3InodeIsOutsideOrFree);
        holds(4, "`newParent` is not in 0..N-1, or is not an in-use DIR -> `ERR_PARENT`;",
            Promise05Test::sentence4NewParentIsNoDirectory);
        holds(5, "`newName` is not in 1..255 -> `ERR_NAME`;", Promise05Test::sentence5NewNameIsOutside);
        holds(6, "`newParent == inode`, or `inode` is met when following PARENT links from `newParent` up to the root "
            + "(at most N steps) -> `ERR_CYCLE`;", Promise05Test::sentence6IntoItselfOrBelow);
        holds(7, "an in-use inode j != `inode`, j != 0, has PARENT == `newParent` and NAME == `newName` -> "
            + "`ERR_EXISTS`.", Promise05Test::sentence7AnotherInodeIsThere);
        holds(8, "A refused call changes nothing.", Promise05Test::sentence8RefusedChangesNothing);
        holds(9, "On success PARENT=`newParent` and NAME=`newName`.", Promise05Test::sentence9SetsParentAndName);
        holds(10, "KIND, CONTENT, STAMP, the clock and everything else do not change.",
            Promise05Test::sentence10ChangesNothingElse);
        holds(11, "The answer is `OK`.", Promise05Test::sentence11AnswersOk);
        holds(12, "A rename to the same place succeeds and changes nothing.",
            Promise05Test::sentence12ToTheSamePlace);
        end();
    }

    private static void sentence1MovesAndRenames(Checks is) {
        DumpLevels x = States.busy();
        is.answers(x, rename(2, 0, 11), OK);
        is.answers(x, lookup(0, 11), 2);
        is.answers(x, lookup(1, 11), -1);
        is.answers(x, rename(2, 0, 20), OK);
        is.answers(x, lookup(0, 20), 2);
        is.answers(x, lookup(0, 11), -1);
        is.answers(x, rename(2, 3, 21), OK);
        is.answers(x, lookup(3, 21), 2);
        is.answers(x, lookup(0, 20), -1);
        // A directory takes what is in it along.
        is.answers(x, rename(3, 0, 22), OK);
        is.answers(x, lookup(0, 22), 3);
        is.answers(x, lookup(3, 21), 2);
    }

    private static void sentence2FirstConditionAnswers(Checks is) {
        DumpLevels x = States.busy();
        int[] anyParents = {-1, 6, 5, 2, 0, 1, 3};
        int[] anyNames = {0, 256, 10, 11, 99};
        for (int inode : new int[] {0, 5, 6, -1, MAX}) {
            for (int parent : anyParents) {
                for (int name : anyNames) {
                    is.answers(x, rename(inode, parent, name), ERR_INODE);
                }
            }
            is.answers(x, rename(inode, inode, 1), ERR_INODE);
        }
        for (int inode : new int[] {1, 2, 3, 4}) {
            for (int parent : new int[] {-1, 6, 5, 2, 4}) {
                for (int name : anyNames) {
                    is.answers(x, rename(inode, parent, name), ERR_PARENT);
                }
            }
            // Into itself, below itself, and onto a name that is held: each with a name outside comes second.
            for (int name : new int[] {0, 256, MIN}) {
                is.answers(x, rename(inode, 1, name), ERR_NAME);
                is.answers(x, rename(inode, 3, name), ERR_NAME);
            }
        }
        // Names 11 and 12 are held in directory 1, so ERR_EXISTS holds as well.
        is.answers(x, rename(1, 1, 11), ERR_CYCLE);
        is.answers(x, rename(1, 1, 12), ERR_CYCLE);
        DumpLevels full = States.full();
        is.answers(full, rename(1, 3, 14), ERR_CYCLE);
        is.answers(full, rename(3, 3, 14), ERR_CYCLE);
        is.answers(full, rename(3, 1, 11), ERR_EXISTS);
    }

    private static void sentence3InodeIsOutsideOrFree(Checks is) {
        for (int n = 4; n <= 16; n++) {
            DumpLevels x = new DumpLevels(n, 2);
            for (int i = 1; i < n; i++) {
                is.answers(x, rename(i, 0, 200), ERR_INODE);
                is.answers(x, create(0, i, FILE), i);
            }
            for (int inode : outside(1, n - 1)) {
                is.answers(x, rename(inode, 0, 200), ERR_INODE);
            }
            is.answers(x, rename(0, 0, 200), ERR_INODE);
            is.answers(x, rename(n, 0, 200), ERR_INODE);
            is.answers(x, rename(n - 1, 0, 200), OK);
            is.answers(x, rename(1, 0, 201), OK);
            is.answers(x, remove(n - 1), OK);
            is.answers(x, rename(n - 1, 0, 202), ERR_INODE);
        }
    }

    private static void sentence4NewParentIsNoDirectory(Checks is) {
        for (int n = 4; n <= 16; n++) {
            DumpLevels x = new DumpLevels(n, 2);
            x.create(0, 1, FILE);
            for (int parent : outside(0, n - 1)) {
                is.answers(x, rename(1, parent, 200), ERR_PARENT);
            }
            for (int parent = 1; parent < n; parent++) {
                is.answers(x, rename(1, parent, 200), ERR_PARENT);
            }
            for (int i = 2; i < n; i++) {
                x.create(0, i, DIR);
            }
            is.answers(x, rename(1, n, 200), ERR_PARENT);
            is.answers(x, rename(1, n - 1, 200), OK);
            is.answers(x, rename(1, 0, 200), OK);
            is.answers(x, remove(n - 1), OK);
            is.answers(x, rename(1, n - 1, 200), ERR_PARENT);
            is.answers(x, rename(2, 1, 200), ERR_PARENT);
        }
    }

    private static void sentence5NewNameIsOutside(Checks is) {
        DumpLevels x = States.busy();
        for (int name : outside(1, 255)) {
            is.answers(x, rename(2, 0, name), ERR_NAME);
            is.answers(x, rename(3, 1, name), ERR_NAME);
        }
        is.answers(x, rename(2, 0, 0), ERR_NAME);
        is.answers(x, rename(2, 0, 256), ERR_NAME);
        is.answers(x, rename(2, 0, 1), OK);
        is.answers(x, rename(2, 0, 255), OK);
    }

    private static void sentence6IntoItselfOrBelow(Checks is) {
        for (int n = 4; n <= 16; n++) {
            DumpLevels x = deepest(n);
            for (int inode = 1; inode < n; inode++) {
                for (int below = inode; below < n; below++) {
                    is.answers(x, rename(inode, below, 9), ERR_CYCLE);
                }
            }
            // Upwards and to the same parent is no cycle.
            is.answers(x, rename(n - 1, n - 2, 9), OK);
            is.answers(x, rename(n - 1, 0, 9), OK);
            // The links now run against the numbers: 1 is below n - 1.
            is.answers(x, rename(1, n - 1, 9), OK);
            is.answers(x, rename(n - 1, 1, 9), ERR_CYCLE);
            is.answers(x, rename(n - 1, n - 2, 9), ERR_CYCLE);
            is.answers(x, rename(n - 1, n - 1, 9), ERR_CYCLE);
        }
        DumpLevels crowded = States.crowded();
        is.answers(crowded, rename(1, 2, 9), OK);
        is.answers(crowded, rename(2, 1, 9), ERR_CYCLE);
        is.answers(crowded, rename(1, 1, 9), ERR_CYCLE);
        is.answers(crowded, rename(3, 1, 9), OK);
        is.answers(crowded, rename(2, 3, 9), ERR_CYCLE);
    }

    /** Every inode but the root is a directory in the one before it. */
    private static DumpLevels deepest(int n) {
        DumpLevels x = new DumpLevels(n, 2);
        for (int i = 1; i < n; i++) {
            x.create(i - 1, 1, DIR);
        }
        return x;
    }

    private static void sentence7AnotherInodeIsThere(Checks is) {
        DumpLevels x = States.full();
        // A file and a directory, each onto a directory and onto a file, of a lower and a higher number.
        is.answers(x, rename(4, 0, 10), ERR_EXISTS);
        is.answers(x, rename(1, 0, 13), ERR_EXISTS);
        is.answers(x, rename(2, 1, 12), ERR_EXISTS);
        is.answers(x, rename(3, 1, 11), ERR_EXISTS);
        is.answers(x, rename(4, 1, 11), ERR_EXISTS);
        is.answers(x, rename(3, 0, 10), ERR_EXISTS);
        is.answers(x, rename(2, 3, 14), ERR_EXISTS);
        is.answers(x, rename(5, 3, 14), OK);
        is.answers(x, rename(4, 1, 13), OK);
        is.answers(x, rename(4, 1, 14), OK);
        is.answers(x, remove(5), OK);
        is.answers(x, rename(4, 3, 14), OK);
        is.answers(x, rename(2, 1, 14), OK);
        is.answers(x, rename(3, 1, 11), OK);
    }

    private static void sentence8RefusedChangesNothing(Checks is) {
        for (int inode : outside(1, 5)) {
            is.changesNothing(States::busy, rename(inode, 0, 20), ERR_INODE);
        }
        for (int parent : outside(0, 5)) {
            is.changesNothing(States::busy, rename(2, parent, 20), ERR_PARENT);
        }
        for (int name : outside(1, 255)) {
            is.changesNothing(States::busy, rename(2, 0, name), ERR_NAME);
        }
        is.changesNothing(States::busy, rename(5, 0, 20), ERR_INODE);
        is.changesNothing(States::busy, rename(2, 5, 20), ERR_PARENT);
        is.changesNothing(States::busy, rename(2, 4, 20), ERR_PARENT);
        is.changesNothing(States::busy, rename(1, 1, 20), ERR_CYCLE);
        is.changesNothing(States::busy, rename(1, 3, 20), ERR_CYCLE);
        is.changesNothing(States::busy, rename(2, 0, 13), ERR_EXISTS);
        is.changesNothing(States::full, rename(1, 3, 20), ERR_CYCLE);
        is.changesNothing(States::full, rename(3, 1, 11), ERR_EXISTS);
        is.changesNothing(States::crowded, rename(14, 6, 255), ERR_EXISTS);
        is.changesNothing(States::crowded, rename(7, 7, 255), ERR_CYCLE);
        is.changesNothing(States::crowded, rename(14, 15, 1), ERR_PARENT);
        States.all().values().forEach(state -> {
            is.changesNothing(state, rename(0, 0, 20), ERR_INODE);
            is.changesNothing(state, rename(-1, 0, 20), ERR_INODE);
            is.changesNothing(state, rename(16, 0, 20), ERR_INODE);
        });
    }

    private static void sentence9SetsParentAndName(Checks is) {
        DumpLevels x = States.busy();
        int[][] places = {{0, 11}, {0, 1}, {3, 1}, {3, 255}, {1, 99}};
        for (int[] place : places) {
            is.answers(x, rename(2, place[0], place[1]), OK);
            is.answers(x, inodeInfo(2, PARENT), place[0]);
            is.answers(x, inodeInfo(2, NAME), place[1]);
        }
        DumpLevels last = deepest(16);
        last.rename(15, 0, 2);
        last.rename(1, 15, 255);
        is.answers(last, inodeInfo(1, PARENT), 15);
        is.answers(last, inodeInfo(1, NAME), 255);
    }

    private static void sentence10ChangesNothingElse(Checks is) {
        is.changes(States.busy(), rename(2, 0, 200), OK, "inodeInfo(2, PARENT) = 0", "inodeInfo(2, NAME) = 200",
            "lookup(1, 11) = -1", "lookup(0, 200) = 2");
        is.changes(States.busy(), rename(4, 3, 13), OK, "inodeInfo(4, PARENT) = 3", "lookup(0, 13) = -1",
            "lookup(3, 13) = 4");
        is.changes(States.full(), rename(3, 1, 1), OK, "inodeInfo(3, NAME) = 1", "lookup(1, 12) = -1",
            "lookup(1, 1) = 3", "restoreMatches() = 0");
        is.changes(States.crowded(), rename(15, 7, 1), OK, "inodeInfo(15, PARENT) = 7", "inodeInfo(15, NAME) = 1",
            "lookup(0, 255) = -1", "lookup(7, 1) = 15");
    }

    private static void sentence11AnswersOk(Checks is) {
        is.answers(States.busy(), rename(2, 0, 20), 0);
        is.answers(States.busy(), rename(3, 0, 20), 0);
        is.answers(States.full(), rename(5, 0, 20), 0);
        is.answers(States.crowded(), rename(15, 1, 20), 0);
        is.answers(States.crowded(), rename(7, 1, 20), 0);
    }

    private static void sentence12ToTheSamePlace(Checks is) {
        is.changesNothing(States::busy, rename(1, 0, 10), OK);
        is.changesNothing(States::busy, rename(2, 1, 11), OK);
        is.changesNothing(States::busy, rename(3, 1, 12), OK);
        is.changesNothing(States::busy, rename(4, 0, 13), OK);
        is.changesNothing(States::full, rename(5, 3, 14), OK);
        is.changesNothing(States::crowded, rename(15, 0, 255), OK);
        is.changesNothing(States::crowded, rename(1, 0, 1), OK);
    }
}
