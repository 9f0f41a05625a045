/** A test for each sentence of promise 3: write. */
public final class Promise03Test extends Sentences {
    private static final int[] VALUES = {0, 1, -1, 255, 256, -129, 32768, 65536, MIN, MIN + 1, MAX - 1, MAX};

    public static void main(String[] args) {
        section("Promise 3");
        holds(1, "`write(inode, value)` sets the content of a file.", Promise03Test::sentence1SetsTheContent);
        holds(2, "Conditions in order:", Promise03Test::sentence2FirstConditionAnswers);
        holds(3, "`inode` is not in 1..N-1 (this includes the root 0), or is free -> `ERR_INODE`;",
            Promise03Test::sentence3InodeIsOutsideOrFree);
        holds(4, "`inode` is a DIR -> `ERR_KIND`.", Promise03Test::sentence4InodeIsADirectory);
        holds(5, "A refused call changes nothing.", Promise03Test::sentence5RefusedChangesNothing);
        holds(6, "On success the clock increases by 1, CONTENT=`value` (any int), and STAMP=the new clock value.",
            Promise03Test::sentence6AnyValueAndTheNewClock);
        holds(7, "The answer is `OK`.", Promise03Test::sentence7AnswersOk);
        holds(8, "KIND, PARENT and NAME of the inode do not change, and nothing else changes.",
            Promise03Test::sentence8ChangesNothingElse);
        holds(9, "Writing the same value again still increases the clock and renews the STAMP.",
            Promise03Test::sentence9SameValueAgain);
        end();
    }

    private static void sentence1SetsTheContent(Checks is) {
        DumpLevels x = States.busy();
        is.answers(x, write(2, 5), OK);
        is.answers(x, inodeInfo(2, CONTENT), 5);
        is.answers(x, write(4, 6), OK);
        is.answers(x, inodeInfo(4, CONTENT), 6);
        is.answers(x, inodeInfo(2, CONTENT), 5);
    }

    private static void sentence2FirstConditionAnswers(Checks is) {
        // The root is a DIR too, so both conditions hold for it.
        States.all().values().forEach(state -> is.answers(state.get(), write(0, 1), ERR_INODE));
    }

    private static void sentence3InodeIsOutsideOrFree(Checks is) {
        for (int n = 4; n <= 16; n++) {
            DumpLevels x = new DumpLevels(n, 2);
            for (int i = 1; i < n; i++) {
                is.answers(x, write(i, 1), ERR_INODE);
                is.answers(x, create(0, i, FILE), i);
            }
            for (int inode : outside(1, n - 1)) {
                is.answers(x, write(inode, 1), ERR_INODE);
            }
            is.answers(x, write(0, 1), ERR_INODE);
            is.answers(x, write(1, 1), OK);
            is.answers(x, write(n - 1, 1), OK);
            is.answers(x, write(n, 1), ERR_INODE);
            is.answers(x, remove(n - 1), OK);
            is.answers(x, write(n - 1, 1), ERR_INODE);
        }
    }

    private static void sentence4InodeIsADirectory(Checks is) {
        for (int value : VALUES) {
            is.answers(States.busy(), write(1, value), ERR_KIND);
            is.answers(States.busy(), write(3, value), ERR_KIND);
        }
        DumpLevels x = States.greatest();
        for (int i = 1; i < 16; i++) {
            x.create(i - 1, 1, DIR);
            is.answers(x, write(i, 0), ERR_KIND);
        }
    }

    private static void sentence5RefusedChangesNothing(Checks is) {
        for (int inode : outside(1, 5)) {
            is.changesNothing(States::busy, write(inode, 9), ERR_INODE);
        }
        for (int value : VALUES) {
            is.changesNothing(States::busy, write(5, value), ERR_INODE);
            is.changesNothing(States::busy, write(1, value), ERR_KIND);
            is.changesNothing(States::full, write(3, value), ERR_KIND);
            is.changesNothing(States::emptied, write(4, value), ERR_INODE);
        }
        States.all().values().forEach(state -> {
            is.changesNothing(state, write(0, 9), ERR_INODE);
            is.changesNothing(state, write(-1, 9), ERR_INODE);
            is.changesNothing(state, write(16, 9), ERR_INODE);
        });
    }

    private static void sentence6AnyValueAndTheNewClock(Checks is) {
        DumpLevels x = States.busy();
        int clock = 8;
        for (int value : VALUES) {
            is.answers(x, write(2, value), OK);
            clock++;
            is.answers(x, getClock(), clock);
            is.answers(x, inodeInfo(2, CONTENT), value);
            is.answers(x, inodeInfo(2, STAMP), clock);
        }
    }

    private static void sentence7AnswersOk(Checks is) {
        for (int value : VALUES) {
            is.answers(States.busy(), write(2, value), 0);
            is.answers(States.full(), write(5, value), 0);
            is.answers(States.crowded(), write(15, value), 0);
        }
    }

    private static void sentence8ChangesNothingElse(Checks is) {
        // The first write there is, so that nothing of an earlier one hides a change.
        DumpLevels first = new DumpLevels(6, 4);
        first.create(0, 10, DIR);
        first.create(1, 11, FILE);
        first.create(1, 12, DIR);
        first.create(0, 13, FILE);
        first.dump(0);
        first.restoreApply(0);
        is.changes(first, write(2, 5), OK, "getClock() = 6", "inodeInfo(2, CONTENT) = 5", "inodeInfo(2, STAMP) = 6",
            "restoreMatches() = 0");
        is.changes(States.busy(), write(2, 5), OK, "getClock() = 9", "inodeInfo(2, CONTENT) = 5",
            "inodeInfo(2, STAMP) = 9");
        is.changes(States.full(), write(5, MIN), OK, "getClock() = 10", "inodeInfo(5, CONTENT) = " + MIN,
            "inodeInfo(5, STAMP) = 10", "restoreMatches() = 0");
        is.changes(States.crowded(), write(15, MAX), OK, "getClock() = 32", "inodeInfo(15, CONTENT) = " + MAX,
            "inodeInfo(15, STAMP) = 32");
    }

    private static void sentence9SameValueAgain(Checks is) {
        is.changes(States.busy(), write(2, 77), OK, "getClock() = 9", "inodeInfo(2, STAMP) = 9");
        DumpLevels x = States.least();
        x.create(0, 1, FILE);
        for (int clock = 2; clock < 6; clock++) {
            is.changes(x, write(1, 0), OK, "getClock() = " + clock, "inodeInfo(1, STAMP) = " + clock);
        }
    }
}
