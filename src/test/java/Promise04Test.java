/** A test for each sentence of promise 4: remove. */
public final class Promise04Test extends Sentences {
    public static void main(String[] args) {
        section("Promise 4");
        holds(1, "`remove(inode)` removes an inode.", Promise04Test::sentence1Removes);
        holds(2, "Conditions in order:", Promise04Test::sentence2FirstConditionAnswers);
        holds(3, "`inode` is not in 1..N-1 (this includes the root 0), or is free -> `ERR_INODE`;",
            Promise04Test::sentence3InodeIsOutsideOrFree);
        holds(4, "`inode` is a DIR with any entry -> `ERR_NOT_EMPTY`.", Promise04Test::sentence4DirectoryWithAnEntry);
        holds(5, "A refused call changes nothing.", Promise04Test::sentence5RefusedChangesNothing);
        holds(6, "On success all five fields of the inode become those of a free inode (all 0), and the answer is "
            + "`OK`.", Promise04Test::sentence6AllFiveFieldsBecomeZero);
        holds(7, "The clock, every other inode, every dump, the dumpdates and the restored state do not change.",
            Promise04Test::sentence7ChangesNothingElse);
        holds(8, "A removed inode is free and may be taken again by a later create.",
            Promise04Test::sentence8MayBeTakenAgain);
        end();
    }

    private static void sentence1Removes(Checks is) {
        DumpLevels x = States.busy();
        is.answers(x, remove(2), OK);
        is.answers(x, lookup(1, 11), -1);
        is.answers(x, inodeInfo(2, KIND), FREE);
        is.answers(x, remove(3), OK);
        is.answers(x, lookup(1, 12), -1);
        is.answers(x, inodeInfo(3, KIND), FREE);
    }

    private static void sentence2FirstConditionAnswers(Checks is) {
        // The root is a DIR too: with an entry in it, both conditions hold.
        is.answers(States.busy(), remove(0), ERR_INODE);
        is.answers(States.full(), remove(0), ERR_INODE);
        is.answers(States.crowded(), remove(0), ERR_INODE);
    }

    private static void sentence3InodeIsOutsideOrFree(Checks is) {
        for (int n = 4; n <= 16; n++) {
            DumpLevels x = new DumpLevels(n, 2);
            is.answers(x, remove(0), ERR_INODE);
            for (int i = 1; i < n; i++) {
                is.answers(x, remove(i), ERR_INODE);
                is.answers(x, create(0, i, i % 2 == 0 ? DIR : FILE), i);
            }
            for (int inode : outside(1, n - 1)) {
                is.answers(x, remove(inode), ERR_INODE);
            }
            is.answers(x, remove(n), ERR_INODE);
            is.answers(x, remove(n - 1), OK);
            is.answers(x, remove(n - 1), ERR_INODE);
            is.answers(x, remove(1), OK);
            is.answers(x, remove(1), ERR_INODE);
        }
    }

    private static void sentence4DirectoryWithAnEntry(Checks is) {
        DumpLevels x = States.full();
        is.answers(x, remove(1), ERR_NOT_EMPTY);
        is.answers(x, remove(3), ERR_NOT_EMPTY);
        is.answers(x, remove(2), OK);
        // What is left in 1 is a directory; then nothing.
        is.answers(x, remove(1), ERR_NOT_EMPTY);
        is.answers(x, rename(3, 0, 12), OK);
        is.answers(x, remove(1), OK);
        // Inode 5, the last one, is the entry of 3; then the first one is.
        is.answers(x, remove(3), ERR_NOT_EMPTY);
        is.answers(x, remove(5), OK);
        is.answers(x, create(3, 1, FILE), 1);
        is.answers(x, remove(3), ERR_NOT_EMPTY);
        is.answers(x, remove(1), OK);
        is.answers(x, remove(3), OK);
        DumpLevels greatest = States.greatest();
        for (int i = 1; i < 16; i++) {
            greatest.create(i - 1, 1, DIR);
        }
        for (int i = 1; i < 15; i++) {
            is.answers(greatest, remove(i), ERR_NOT_EMPTY);
        }
        for (int i = 15; i > 0; i--) {
            is.answers(greatest, remove(i), OK);
        }
    }

    private static void sentence5RefusedChangesNothing(Checks is) {
        for (int inode : outside(1, 5)) {
            is.changesNothing(States::busy, remove(inode), ERR_INODE);
        }
        is.changesNothing(States::busy, remove(5), ERR_INODE);
        is.changesNothing(States::busy, remove(1), ERR_NOT_EMPTY);
        is.changesNothing(States::full, remove(1), ERR_NOT_EMPTY);
        is.changesNothing(States::full, remove(3), ERR_NOT_EMPTY);
        is.changesNothing(States::crowded, remove(7), ERR_NOT_EMPTY);
        is.changesNothing(States::emptied, remove(4), ERR_INODE);
        States.all().values().forEach(state -> {
            is.changesNothing(state, remove(0), ERR_INODE);
            is.changesNothing(state, remove(-1), ERR_INODE);
            is.changesNothing(state, remove(16), ERR_INODE);
        });
    }

    private static void sentence6AllFiveFieldsBecomeZero(Checks is) {
        DumpLevels x = States.full();
        for (int inode : new int[] {5, 4, 3, 2, 1}) {
            is.answers(x, remove(inode), OK);
            is.live(x, inode, FREE, 0, 0, 0, 0);
        }
    }

    private static void sentence7ChangesNothingElse(Checks is) {
        is.changes(States.busy(), remove(2), OK, "inodeInfo(2, KIND) = 0", "inodeInfo(2, PARENT) = 0",
            "inodeInfo(2, NAME) = 0", "inodeInfo(2, CONTENT) = 0", "inodeInfo(2, STAMP) = 0", "lookup(1, 11) = -1");
        is.changes(States.busy(), remove(3), OK, "inodeInfo(3, KIND) = 0", "inodeInfo(3, PARENT) = 0",
            "inodeInfo(3, NAME) = 0", "inodeInfo(3, STAMP) = 0", "lookup(1, 12) = -1");
        is.changes(States.full(), remove(5), OK, "inodeInfo(5, KIND) = 0", "inodeInfo(5, PARENT) = 0",
            "inodeInfo(5, NAME) = 0", "inodeInfo(5, STAMP) = 0", "lookup(3, 14) = -1", "restoreMatches() = 0");
        is.changes(States.crowded(), remove(15), OK, "inodeInfo(15, KIND) = 0", "inodeInfo(15, NAME) = 0",
            "inodeInfo(15, CONTENT) = 0", "inodeInfo(15, STAMP) = 0", "lookup(0, 255) = -1");
    }

    private static void sentence8MayBeTakenAgain(Checks is) {
        for (int inode : new int[] {2, 4, 5}) {
            DumpLevels x = States.full();
            is.answers(x, create(0, 99, FILE), ERR_FULL);
            is.answers(x, remove(inode), OK);
            is.answers(x, write(inode, 1), ERR_INODE);
            is.answers(x, create(0, 99, DIR), inode);
            is.live(x, inode, DIR, 0, 99, 0, 10);
            is.answers(x, create(0, 98, FILE), ERR_FULL);
        }
        DumpLevels x = States.full();
        is.answers(x, remove(4), OK);
        is.answers(x, create(0, 13, FILE), 4);
        is.live(x, 4, FILE, 0, 13, 0, 10);
    }
}
