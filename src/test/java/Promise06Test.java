/** A test for each sentence of promise 6: lookup. */
public final class Promise06Test extends Sentences {
    public static void main(String[] args) {
        section("Promise 6");
        holds(1, "`lookup(parent, name)` answers the entry of `parent` named `name` in the live file system, or -1 if "
            + "there is none.", Promise06Test::sentence1AnswersTheEntryOrMinusOne);
        holds(2, "It also answers -1 if `parent` is not in 0..N-1 or `name` is not in 1..255.",
            Promise06Test::sentence2ParentOrNameIsOutside);
        holds(3, "The root is never an answer.", Promise06Test::sentence3TheRootIsNeverAnAnswer);
        holds(4, "Nothing changes.", Promise06Test::sentence4NothingChanges);
        end();
    }

    private static void sentence1AnswersTheEntryOrMinusOne(Checks is) {
        DumpLevels x = States.busy();
        is.answers(x, lookup(0, 10), 1);
        is.answers(x, lookup(1, 11), 2);
        is.answers(x, lookup(1, 12), 3);
        is.answers(x, lookup(0, 13), 4);
        is.answers(x, lookup(1, 13), -1);
        // An empty directory, a file and a free inode have no entry.
        for (int name = 1; name <= 255; name++) {
            is.answers(x, lookup(3, name), -1);
            is.answers(x, lookup(2, name), -1);
            is.answers(x, lookup(5, name), -1);
        }
        // Names at both ends of their range, and the last inode.
        DumpLevels ends = States.crowded();
        is.answers(ends, lookup(0, 1), 1);
        is.answers(ends, lookup(0, 255), 15);
        is.answers(ends, lookup(7, 255), 14);
        is.answers(ends, lookup(7, 254), -1);
        // The restored side still has what the live side has not.
        DumpLevels emptied = States.emptied();
        is.answers(emptied, restoredInfo(1, NAME), 10);
        is.answers(emptied, lookup(0, 10), -1);
        is.answers(emptied, lookup(1, 11), -1);
    }

    private static void sentence2ParentOrNameIsOutside(Checks is) {
        for (int n = 4; n <= 16; n++) {
            DumpLevels x = new DumpLevels(n, 2);
            x.create(0, 1, DIR);
            x.create(1, 255, FILE);
            x.create(0, 255, FILE);
            for (int parent : outside(0, n - 1)) {
                is.answers(x, lookup(parent, 1), -1);
                is.answers(x, lookup(parent, 255), -1);
                is.answers(x, lookup(parent, 0), -1);
            }
            for (int name : outside(1, 255)) {
                is.answers(x, lookup(0, name), -1);
                is.answers(x, lookup(1, name), -1);
            }
            is.answers(x, lookup(n, 1), -1);
            is.answers(x, lookup(0, 256), -1);
        }
    }

    private static void sentence3TheRootIsNeverAnAnswer(Checks is) {
        States.all().values().forEach(state -> {
            DumpLevels x = state.get();
            for (int parent = -1; parent <= 16; parent++) {
                for (int name = -1; name <= 257; name++) {
                    is.due("lookup(" + parent + ", " + name + ") answers the root", false, x.lookup(parent, name) == 0);
                }
            }
            // PARENT and NAME of the root are both 0.
            is.answers(x, lookup(0, 0), -1);
        });
    }

    private static void sentence4NothingChanges(Checks is) {
        is.changesNothing(States::busy, lookup(1, 11), 2);
        is.changesNothing(States::crowded, lookup(0, 255), 15);
        States.all().values().forEach(state -> {
            is.changesNothing(state, lookup(0, 99), -1);
            is.changesNothing(state, lookup(3, 99), -1);
            is.changesNothing(state, lookup(-1, 1), -1);
            is.changesNothing(state, lookup(16, 1), -1);
            is.changesNothing(state, lookup(0, 0), -1);
            is.changesNothing(state, lookup(0, 256), -1);
            is.changesNothing(state, lookup(MIN, MAX), -1);
        });
    }
}
