/** A test for each sentence of promise 2: create. */
public final class Promise02Test extends Sentences {
    public static void main(String[] args) {
        section("Promise 2");
        holds(1, "`create(parent, name, kind)` creates a new inode of `kind` in directory `parent` under `name`.",
            Promise02Test::sentence1Creates);
        holds(2, "Conditions are examined in this order, and the first that holds gives the answer:",
            Promise02Test::sentence2FirstConditionAnswers);
        holds(3, "`kind` is not `KIND_FILE` or `KIND_DIR` -> `ERR_KIND` (so `KIND_FREE` is refused);",
            Promise02Test::sentence3KindIsNoFileOrDir);
        holds(4, "`parent` is not in 0..N-1, or is not an in-use DIR (free, or a FILE) -> `ERR_PARENT`;",
            Promise02Test::sentence4ParentIsNoDirectory);
        holds(5, "`name` is not in 1..255 -> `ERR_NAME`;", Promise02Test::sentence5NameIsOutside);
        holds(6, "an entry of `parent` already has that name -> `ERR_EXISTS`;",
            Promise02Test::sentence6NameIsTaken);
        holds(7, "no free inode exists -> `ERR_FULL`.", Promise02Test::sentence7NoFreeInode);
        holds(8, "A refused call changes nothing: no inode, no clock, no dump, no dumpdates and no restored state.",
            Promise02Test::sentence8RefusedChangesNothing);
        holds(9, "On success it takes the lowest-numbered free inode i and increases the clock by 1.",
            Promise02Test::sentence9TakesTheLowestFreeInode);
        holds(10, "It sets KIND=`kind`, PARENT=`parent`, NAME=`name`, CONTENT=0, STAMP=the new clock value.",
            Promise02Test::sentence10SetsTheFiveFields);
        holds(11, "The answer is i, which is in 1..N-1.", Promise02Test::sentence11AnswersTheInode);
        holds(12, "No other inode, dump, dumpdates value or restored state changes.",
            Promise02Test::sentence12ChangesNothingElse);
        end();
    }

    private static void sentence1Creates(Checks is) {
        DumpLevels x = States.busy();
        is.answers(x, create(3, 14, FILE), 5);
        is.answers(x, inodeInfo(5, KIND), FILE);
        is.answers(x, lookup(3, 14), 5);
        is.answers(x, remove(5), OK);
        is.answers(x, create(0, 14, DIR), 5);
        is.answers(x, inodeInfo(5, KIND), DIR);
        is.answers(x, lookup(0, 14), 5);
        is.answers(x, lookup(3, 14), -1);
    }

    private static void sentence2FirstConditionAnswers(Checks is) {
        // In full every good call is at least ERR_FULL, so any set of the conditions can hold at once.
        int[] badKinds = {FREE, 3, MIN, MAX};
        int[] badParents = {-1, 6, 2, MAX};
        int[] badNames = {0, 256, MIN};
        DumpLevels full = States.full();
        DumpLevels busy = States.busy();
        for (int kind : badKinds) {
            for (int parent : new int[] {-1, 6, 2, MAX, 0, 1}) {
                for (int name : new int[] {0, 256, MIN, 10, 11, 99}) {
                    is.answers(full, create(parent, name, kind), ERR_KIND);
                    is.answers(busy, create(parent, name, kind), ERR_KIND);
                }
            }
        }
        for (int parent : badParents) {
            for (int name : new int[] {0, 256, MIN, 10, 11, 99}) {
                is.answers(full, create(parent, name, FILE), ERR_PARENT);
                is.answers(busy, create(parent, name, DIR), ERR_PARENT);
            }
        }
        is.answers(busy, create(5, 0, FILE), ERR_PARENT);
        for (int name : badNames) {
            is.answers(full, create(0, name, DIR), ERR_NAME);
            is.answers(busy, create(0, name, FILE), ERR_NAME);
        }
        is.answers(full, create(0, 10, FILE), ERR_EXISTS);
        is.answers(full, create(1, 12, DIR), ERR_EXISTS);
        is.answers(full, create(0, 11, FILE), ERR_FULL);
        is.answers(busy, create(0, 11, FILE), 5);
    }

    private static void sentence3KindIsNoFileOrDir(Checks is) {
        for (int kind : outside(FILE, DIR)) {
            is.answers(States.least(), create(0, 1, kind), ERR_KIND);
            is.answers(States.busy(), create(1, 20, kind), ERR_KIND);
        }
        is.answers(States.least(), create(0, 1, FREE), ERR_KIND);
        is.answers(States.least(), create(0, 1, FILE), 1);
        is.answers(States.least(), create(0, 1, DIR), 1);
    }

    private static void sentence4ParentIsNoDirectory(Checks is) {
        for (int n = 4; n <= 16; n++) {
            DumpLevels x = new DumpLevels(n, 2);
            for (int parent : outside(0, n - 1)) {
                is.answers(x, create(parent, 1, FILE), ERR_PARENT);
            }
            for (int parent = 1; parent < n; parent++) {
                is.answers(x, create(parent, 1, DIR), ERR_PARENT);
            }
            for (int i = 1; i < n; i++) {
                is.answers(x, create(0, i, DIR), i);
            }
            is.answers(x, remove(1), OK);
            is.answers(x, create(1, 1, FILE), ERR_PARENT);
            is.answers(x, create(n, 1, FILE), ERR_PARENT);
            is.answers(x, create(n - 1, 1, FILE), 1);
            is.answers(x, create(1, 1, FILE), ERR_PARENT);
            is.answers(x, remove(1), OK);
            is.answers(x, create(0, 1, FILE), 1);
        }
    }

    private static void sentence5NameIsOutside(Checks is) {
        for (int name : outside(1, 255)) {
            is.answers(States.least(), create(0, name, FILE), ERR_NAME);
            is.answers(States.busy(), create(3, name, DIR), ERR_NAME);
        }
        is.answers(States.least(), create(0, 0, FILE), ERR_NAME);
        is.answers(States.least(), create(0, 1, FILE), 1);
        is.answers(States.least(), create(0, 255, FILE), 1);
        is.answers(States.least(), create(0, 256, FILE), ERR_NAME);
    }

    private static void sentence6NameIsTaken(Checks is) {
        DumpLevels x = new DumpLevels(7, 2);
        x.create(0, 1, FILE);
        x.create(0, 2, DIR);
        x.create(2, 1, DIR);
        x.create(0, 4, FILE);
        x.create(2, 255, FILE);
        for (int kind : new int[] {FILE, DIR}) {
            is.answers(x, create(0, 1, kind), ERR_EXISTS);
            is.answers(x, create(0, 2, kind), ERR_EXISTS);
            is.answers(x, create(2, 1, kind), ERR_EXISTS);
            is.answers(x, create(2, 255, kind), ERR_EXISTS);
        }
        is.answers(x, create(2, 2, FILE), 6);
        is.answers(x, create(2, 2, FILE), ERR_EXISTS);
        is.answers(x, rename(6, 0, 6), OK);
        is.answers(x, create(0, 6, FILE), ERR_EXISTS);
        is.answers(x, remove(6), OK);
        is.answers(x, create(0, 255, FILE), 6);
        is.answers(x, remove(1), OK);
        is.answers(x, create(0, 1, DIR), 1);
    }

    private static void sentence7NoFreeInode(Checks is) {
        for (int n = 4; n <= 16; n++) {
            DumpLevels x = new DumpLevels(n, 2);
            for (int i = 1; i < n; i++) {
                is.answers(x, create(i == 1 ? 0 : 1, i, i == 1 ? DIR : FILE), i);
            }
            is.answers(x, create(0, 200, FILE), ERR_FULL);
            is.answers(x, create(1, 200, DIR), ERR_FULL);
            is.answers(x, remove(n - 1), OK);
            is.answers(x, create(0, 200, FILE), n - 1);
            is.answers(x, create(0, 201, FILE), ERR_FULL);
        }
    }

    private static void sentence8RefusedChangesNothing(Checks is) {
        for (int kind : outside(FILE, DIR)) {
            is.changesNothing(States::busy, create(0, 20, kind), ERR_KIND);
        }
        for (int parent : outside(0, 5)) {
            is.changesNothing(States::busy, create(parent, 20, FILE), ERR_PARENT);
        }
        for (int name : outside(1, 255)) {
            is.changesNothing(States::busy, create(0, name, FILE), ERR_NAME);
        }
        for (int kind : new int[] {FILE, DIR}) {
            is.changesNothing(States::busy, create(2, 20, kind), ERR_PARENT);
            is.changesNothing(States::busy, create(5, 20, kind), ERR_PARENT);
            is.changesNothing(States::busy, create(1, 11, kind), ERR_EXISTS);
            is.changesNothing(States::full, create(0, 10, kind), ERR_EXISTS);
            is.changesNothing(States::full, create(0, 20, kind), ERR_FULL);
            is.changesNothing(States::full, create(3, 20, kind), ERR_FULL);
            is.changesNothing(States::crowded, create(7, 254, kind), ERR_FULL);
            is.changesNothing(States::crowded, create(7, 255, kind), ERR_EXISTS);
            is.changesNothing(States::crowded, create(15, 1, kind), ERR_PARENT);
        }
        States.all().values().forEach(state -> {
            is.changesNothing(state, create(0, 20, FREE), ERR_KIND);
            is.changesNothing(state, create(-1, 20, FILE), ERR_PARENT);
            is.changesNothing(state, create(16, 20, DIR), ERR_PARENT);
            is.changesNothing(state, create(0, 0, FILE), ERR_NAME);
            is.changesNothing(state, create(0, 256, DIR), ERR_NAME);
        });
    }

    private static void sentence9TakesTheLowestFreeInode(Checks is) {
        DumpLevels x = States.crowded();
        int clock = x.getClock();
        is.answers(x, getClock(), 31);
        for (int i : new int[] {15, 9, 12, 8, 1}) {
            is.answers(x, remove(i), OK);
        }
        int[] due = {1, 8, 9, 12, 15};
        for (int k = 0; k < due.length; k++) {
            is.answers(x, create(2, 100 + k, FILE), due[k]);
            is.answers(x, getClock(), clock + k + 1);
        }
        DumpLevels least = States.least();
        is.answers(least, create(0, 1, FILE), 1);
        is.answers(least, getClock(), 1);
        is.answers(least, create(0, 2, FILE), 2);
        is.answers(least, create(0, 3, FILE), 3);
        is.answers(least, getClock(), 3);
    }

    private static void sentence10SetsTheFiveFields(Checks is) {
        DumpLevels x = States.greatest();
        for (int i = 1; i < 15; i++) {
            is.answers(x, create(i - 1, 255, DIR), i);
            is.live(x, i, DIR, i - 1, 255, 0, i);
        }
        is.answers(x, create(14, 1, FILE), 15);
        is.live(x, 15, FILE, 14, 1, 0, 15);
        // What a removed file held must not come back with the inode.
        x.write(15, MIN);
        x.remove(15);
        is.answers(x, create(0, 1, FILE), 15);
        is.live(x, 15, FILE, 0, 1, 0, 17);
        x.write(15, MAX);
        x.remove(15);
        is.answers(x, create(14, 2, DIR), 15);
        is.live(x, 15, DIR, 14, 2, 0, 19);
    }

    private static void sentence11AnswersTheInode(Checks is) {
        MixedRun.all((n, limit) -> (x, step) -> {
            if (step.is("create") && step.answer() >= 0) {
                int i = step.answer();
                is.due("create answers 1..N-1", true, i >= 1 && i < n);
                is.live(x, i, step.argument(2), step.argument(0), step.argument(1), 0, x.getClock());
                is.answers(x, lookup(step.argument(0), step.argument(1)), i);
            }
        });
        DumpLevels greatest = States.greatest();
        for (int i = 1; i < 16; i++) {
            is.answers(greatest, create(0, i, FILE), i);
        }
    }

    private static void sentence12ChangesNothingElse(Checks is) {
        is.changes(States.busy(), create(1, 255, FILE), 5, "getClock() = 9", "inodeInfo(5, KIND) = 1",
            "inodeInfo(5, PARENT) = 1", "inodeInfo(5, NAME) = 255", "inodeInfo(5, STAMP) = 9", "lookup(1, 255) = 5");
        is.changes(States.least(), create(0, 1, DIR), 1, "getClock() = 1", "inodeInfo(1, KIND) = 2",
            "inodeInfo(1, NAME) = 1", "inodeInfo(1, STAMP) = 1", "lookup(0, 1) = 1", "restoreMatches() = 0");
        DumpLevels x = States.crowded();
        x.remove(15);
        is.changes(x, create(7, 1, FILE), 15, "getClock() = 32", "inodeInfo(15, KIND) = 1",
            "inodeInfo(15, PARENT) = 7", "inodeInfo(15, NAME) = 1", "inodeInfo(15, STAMP) = 32",
            "lookup(7, 1) = 15");
    }
}
