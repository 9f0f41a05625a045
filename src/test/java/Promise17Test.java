/** A test for each sentence of promise 17: restoreMatches. */
public final class Promise17Test extends Sentences {
    public static void main(String[] args) {
        section("Promise 17");
        holds(1, "`restoreMatches()` answers true iff, for every inode in 0..N-1, all five fields of the restored file "
            + "system equal the live ones.", Promise17Test::sentence1TrueIffAllFieldsAreEqual);
        holds(2, "Nothing changes.", Promise17Test::sentence2NothingChanges);
        end();
    }

    private static void sentence1TrueIffAllFieldsAreEqual(Checks is) {
        is.answers(States.least(), restoreMatches(), 1);
        is.answers(States.greatest(), restoreMatches(), 1);
        is.answers(States.busy(), restoreMatches(), 0);
        is.answers(States.full(), restoreMatches(), 1);
        is.answers(States.emptied(), restoreMatches(), 0);
        oneFieldDiffers(is);
        oneInodeDiffers(is);
        MixedRun.all((n, limit) -> (x, step) -> {
            boolean same = true;
            for (int k = 0; k < 5 * n; k++) {
                same = same && x.restoredInfo(k / 5, k % 5) == x.inodeInfo(k / 5, k % 5);
            }
            is.due("restoreMatches() after " + step.name(), same, x.restoreMatches());
        });
    }

    /** Inode 1 alone differs: in its NAME, its PARENT, its STAMP, then in more and more. */
    private static void oneFieldDiffers(Checks is) {
        DumpLevels x = States.least();
        x.create(0, 1, FILE);
        x.create(0, 2, DIR);
        x.write(1, 5);
        x.dump(0);
        x.restoreApply(0);
        is.answers(x, restoreMatches(), 1);
        x.rename(1, 0, 3);
        is.answers(x, restoreMatches(), 0);
        x.rename(1, 2, 1);
        is.answers(x, restoreMatches(), 0);
        x.rename(1, 0, 1);
        is.answers(x, restoreMatches(), 1);
        x.write(1, 5);
        is.answers(x, restoreMatches(), 0);
        x.write(1, 6);
        is.answers(x, restoreMatches(), 0);
        x.remove(1);
        is.answers(x, restoreMatches(), 0);
        x.create(0, 1, DIR);
        is.answers(x, restoreMatches(), 0);
        onlyTheStampDiffers(is);
    }

    /**
     * No run of calls makes KIND or CONTENT differ alone: a stamp is given once, so an inode that has the
     * restored stamp also has the restored KIND and CONTENT.
     */
    private static void onlyTheStampDiffers(Checks is) {
        DumpLevels x = States.full();
        is.changes(x, write(5, 0), OK, "getClock() = 10", "inodeInfo(5, STAMP) = 10", "restoreMatches() = 0");
    }

    private static void oneInodeDiffers(Checks is) {
        for (int n = 4; n <= 16; n++) {
            for (int inode = 1; inode < n; inode++) {
                DumpLevels x = new DumpLevels(n, 2);
                for (int i = 1; i < n; i++) {
                    x.create(0, i, FILE);
                }
                x.dump(0);
                is.answers(x, restoreMatches(), 0);
                x.restoreApply(0);
                is.answers(x, restoreMatches(), 1);
                x.rename(inode, 0, 200);
                is.answers(x, restoreMatches(), 0);
                x.rename(inode, 0, inode);
                is.answers(x, restoreMatches(), 1);
                x.remove(inode);
                is.answers(x, restoreMatches(), 0);
            }
        }
    }

    private static void sentence2NothingChanges(Checks is) {
        is.changesNothing(States::least, restoreMatches(), 1);
        is.changesNothing(States::greatest, restoreMatches(), 1);
        is.changesNothing(States::dumped, restoreMatches(), 0);
        is.changesNothing(States::busy, restoreMatches(), 0);
        is.changesNothing(States::full, restoreMatches(), 1);
        is.changesNothing(States::crowded, restoreMatches(), 0);
        is.changesNothing(States::emptied, restoreMatches(), 0);
    }
}
