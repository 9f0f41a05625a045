/** A test for each sentence of promise 13: restoreReset. */
public final class Promise13Test extends Sentences {
    public static void main(String[] args) {
        section("Promise 13");
        holds(1, "`restoreReset()` makes the restored file system root-only, with every other inode free and all its "
            + "fields 0, and sets restoreStamp to 0.", Promise13Test::sentence1RootOnly);
        holds(2, "It may be called in any state.", Promise13Test::sentence2InAnyState);
        holds(3, "The live file system, the clock, the dumps and the dumpdates do not change.",
            Promise13Test::sentence3ChangesNothingElse);
        end();
    }

    private static void rootOnly(Checks is, DumpLevels x) {
        is.restored(x, 0, DIR, 0, 0, 0, 0);
        for (int i = 1; i < inodesOf(x); i++) {
            is.restored(x, i, FREE, 0, 0, 0, 0);
        }
        is.answers(x, restoreStamp(), 0);
    }

    private static void sentence1RootOnly(Checks is) {
        for (int n = 4; n <= 16; n++) {
            DumpLevels x = new DumpLevels(n, 2);
            x.create(0, 200, DIR);
            for (int i = 2; i < n; i++) {
                x.create(1, i, FILE);
                x.write(i, -i);
            }
            x.dump(0);
            is.answers(x, restoreApply(0), OK);
            is.restored(x, n - 1, FILE, 1, n - 1, 1 - n, 2 * n - 3);
            x.restoreReset();
            rootOnly(is, x);
        }
    }

    private static void sentence2InAnyState(Checks is) {
        States.all().values().forEach(state -> {
            DumpLevels x = state.get();
            x.restoreReset();
            rootOnly(is, x);
            x.restoreReset();
            rootOnly(is, x);
            // From here every chain can be applied as from the start.
            for (int d = 0; d < dumpsOf(x); d++) {
                x.restoreReset();
                rootOnly(is, x);
                chainOf(x, d).forEach(k -> is.answers(x, restoreApply(k), OK));
            }
        });
        MixedRun.all((n, limit) -> (x, step) -> {
            if (step.is("restoreReset")) {
                rootOnly(is, x);
            }
        });
    }

    private static void sentence3ChangesNothingElse(Checks is) {
        is.changes(States.busy(), restoreReset(), 0, "restoreStamp() = 0", "restoredInfo(1, KIND) = 0",
            "restoredInfo(1, NAME) = 0", "restoredInfo(1, STAMP) = 0", "restoredInfo(2, KIND) = 0",
            "restoredInfo(2, PARENT) = 0", "restoredInfo(2, NAME) = 0", "restoredInfo(2, CONTENT) = 0",
            "restoredInfo(2, STAMP) = 0", "restoredInfo(3, KIND) = 0", "restoredInfo(3, PARENT) = 0",
            "restoredInfo(3, NAME) = 0", "restoredInfo(3, STAMP) = 0", "restoredInfo(4, KIND) = 0",
            "restoredInfo(4, NAME) = 0", "restoredInfo(4, STAMP) = 0");
        is.changesNothing(States::least, restoreReset(), 0);
        is.changesNothing(States::greatest, restoreReset(), 0);
        States.all().values().forEach(state -> {
            DumpLevels x = state.get();
            int[] before = Shown.by(x);
            x.restoreReset();
            is.answers(x, restoreStamp(), 0);
            for (String changed : Shown.changes(before, Shown.by(x))) {
                is.due(changed + " is no change of restoreReset()", true, changed.startsWith("restore"));
            }
        });
    }
}
