/** A test for each sentence of promise 7: inodeInfo. */
public final class Promise07Test extends Sentences {
    public static void main(String[] args) {
        section("Promise 7");
        holds(1, "`inodeInfo(inode, what)` answers field `what` (`FIELD_KIND`..`FIELD_STAMP`) of live inode `inode`.",
            Promise07Test::sentence1AnswersTheField);
        holds(2, "It answers -1 if `inode` is not in 0..N-1 or `what` is not in 0..4 (so `FIELD_CAPTURED` gives -1).",
            Promise07Test::sentence2InodeOrWhatIsOutside);
        holds(3, "For a free inode every field is 0.", Promise07Test::sentence3FreeInode);
        holds(4, "For the root, KIND is `KIND_DIR` and the other fields are 0.", Promise07Test::sentence4Root);
        holds(5, "Nothing changes.", Promise07Test::sentence5NothingChanges);
        end();
    }

    private static void sentence1AnswersTheField(Checks is) {
        DumpLevels x = States.busy();
        is.answers(x, inodeInfo(2, 0), FILE);
        is.answers(x, inodeInfo(2, 1), 1);
        is.answers(x, inodeInfo(2, 2), 11);
        is.answers(x, inodeInfo(2, 3), 77);
        is.answers(x, inodeInfo(2, 4), 5);
        is.live(x, 1, DIR, 0, 10, 0, 1);
        is.live(x, 3, DIR, 1, 12, 0, 3);
        // The restored side has the file as it was before the -8.
        is.live(x, 4, FILE, 0, 13, -8, 7);
        is.live(States.crowded(), 15, FILE, 0, 255, 507, 30);
        is.live(States.crowded(), 14, FILE, 7, 255, 506, 28);
    }

    private static void sentence2InodeOrWhatIsOutside(Checks is) {
        for (int n = 4; n <= 16; n++) {
            DumpLevels x = new DumpLevels(n, 2);
            for (int i = 1; i < n; i++) {
                x.create(0, i, FILE);
            }
            for (int what = 0; what <= 4; what++) {
                for (int inode : outside(0, n - 1)) {
                    is.answers(x, inodeInfo(inode, what), -1);
                }
                is.answers(x, inodeInfo(n, what), -1);
                is.due("inodeInfo(N-1, " + what + ") is an answer", true, x.inodeInfo(n - 1, what) != -1);
            }
            for (int inode = 0; inode < n; inode++) {
                for (int what : outside(0, 4)) {
                    is.answers(x, inodeInfo(inode, what), -1);
                }
                is.answers(x, inodeInfo(inode, CAPTURED), -1);
            }
            is.answers(x, inodeInfo(-1, -1), -1);
            is.answers(x, inodeInfo(n, CAPTURED), -1);
        }
    }

    private static void sentence3FreeInode(Checks is) {
        is.live(States.busy(), 5, FREE, 0, 0, 0, 0);
        DumpLevels emptied = States.emptied();
        for (int i = 1; i < 6; i++) {
            is.live(emptied, i, FREE, 0, 0, 0, 0);
        }
        DumpLevels greatest = States.greatest();
        for (int i = 1; i < 16; i++) {
            is.live(greatest, i, FREE, 0, 0, 0, 0);
        }
    }

    private static void sentence4Root(Checks is) {
        States.all().values().forEach(state -> is.live(state.get(), 0, DIR, 0, 0, 0, 0));
    }

    private static void sentence5NothingChanges(Checks is) {
        for (int what = 0; what <= 4; what++) {
            is.changesNothing(States::busy, inodeInfo(2, what), new int[] {FILE, 1, 11, 77, 5}[what]);
            is.changesNothing(States::busy, inodeInfo(5, what), 0);
            is.changesNothing(States::crowded, inodeInfo(15, what), new int[] {FILE, 0, 255, 507, 30}[what]);
        }
        States.all().values().forEach(state -> {
            is.changesNothing(state, inodeInfo(0, KIND), DIR);
            is.changesNothing(state, inodeInfo(-1, KIND), -1);
            is.changesNothing(state, inodeInfo(16, KIND), -1);
            is.changesNothing(state, inodeInfo(1, CAPTURED), -1);
            is.changesNothing(state, inodeInfo(1, -1), -1);
            is.changesNothing(state, inodeInfo(MAX, MIN), -1);
        });
    }
}
