/** A test for each sentence of promise 16: restoredInfo. */
public final class Promise16Test extends Sentences {
    public static void main(String[] args) {
        section("Promise 16");
        holds(1, "`restoredInfo(inode, what)` is like `inodeInfo`, but for the restored file system.",
            Promise16Test::sentence1LikeInodeInfoButRestored);
        holds(2, "It answers field `what` (0..4) of restored inode `inode`, or -1 if `inode` is not in 0..N-1 or "
            + "`what` is not in 0..4.", Promise16Test::sentence2FieldOrMinusOne);
        holds(3, "Nothing changes.", Promise16Test::sentence3NothingChanges);
        end();
    }

    private static void sentence1LikeInodeInfoButRestored(Checks is) {
        // Where both sides are the same, both calls answer the same.
        DumpLevels x = States.full();
        for (int i = -1; i <= 6; i++) {
            for (int what = -1; what <= 6; what++) {
                is.answers(x, restoredInfo(i, what), x.inodeInfo(i, what));
            }
        }
        x.write(2, 1);
        x.rename(4, 3, 99);
        x.remove(5);
        is.restored(x, 2, FILE, 1, 11, 77, 6);
        is.restored(x, 4, FILE, 0, 13, -8, 8);
        is.restored(x, 5, FILE, 3, 14, 0, 5);
        // As with inodeInfo, the root is a DIR and a free inode is all 0.
        x.restoreReset();
        is.restored(x, 0, DIR, 0, 0, 0, 0);
        for (int i = 1; i < 6; i++) {
            is.restored(x, i, FREE, 0, 0, 0, 0);
        }
    }

    private static void sentence2FieldOrMinusOne(Checks is) {
        DumpLevels busy = States.busy();
        is.answers(busy, restoredInfo(2, 0), FILE);
        is.answers(busy, restoredInfo(2, 1), 1);
        is.answers(busy, restoredInfo(2, 2), 11);
        is.answers(busy, restoredInfo(2, 3), 77);
        is.answers(busy, restoredInfo(2, 4), 5);
        for (int n = 4; n <= 16; n++) {
            DumpLevels x = new DumpLevels(n, 2);
            for (int i = 1; i < n; i++) {
                x.create(0, i, FILE);
            }
            x.dump(0);
            x.restoreApply(0);
            is.restored(x, n - 1, FILE, 0, n - 1, 0, n - 1);
            for (int what = 0; what <= 4; what++) {
                for (int inode : outside(0, n - 1)) {
                    is.answers(x, restoredInfo(inode, what), -1);
                }
                is.answers(x, restoredInfo(n, what), -1);
            }
            for (int inode = 0; inode < n; inode++) {
                for (int what : outside(0, 4)) {
                    is.answers(x, restoredInfo(inode, what), -1);
                }
                is.answers(x, restoredInfo(inode, CAPTURED), -1);
            }
            is.answers(x, restoredInfo(-1, -1), -1);
            is.answers(x, restoredInfo(n, CAPTURED), -1);
        }
    }

    private static void sentence3NothingChanges(Checks is) {
        for (int what = 0; what <= 4; what++) {
            is.changesNothing(States::busy, restoredInfo(2, what), new int[] {FILE, 1, 11, 77, 5}[what]);
            is.changesNothing(States::busy, restoredInfo(5, what), 0);
            is.changesNothing(States::crowded, restoredInfo(15, what), new int[] {FILE, 0, 255, 0, 15}[what]);
        }
        States.all().values().forEach(state -> {
            is.changesNothing(state, restoredInfo(0, KIND), DIR);
            is.changesNothing(state, restoredInfo(-1, KIND), -1);
            is.changesNothing(state, restoredInfo(16, KIND), -1);
            is.changesNothing(state, restoredInfo(1, CAPTURED), -1);
            is.changesNothing(state, restoredInfo(1, -1), -1);
            is.changesNothing(state, restoredInfo(MAX, MIN), -1);
        });
    }
}
