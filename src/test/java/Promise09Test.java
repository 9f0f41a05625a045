/** A test for each sentence of promise 9: dump. */
public final class Promise09Test extends Sentences {
    public static void main(String[] args) {
        section("Promise 9");
        holds(1, "`dump(level)` takes a dump of level `level`.", Promise09Test::sentence1TakesADump);
        holds(2, "Conditions in order:", Promise09Test::sentence2FirstConditionAnswers);
        holds(3, "`level` is not in 0..9 -> `ERR_LEVEL`;", Promise09Test::sentence3LevelIsOutside);
        holds(4, "D dumps already taken -> `ERR_FULL`.", Promise09Test::sentence4AllDumpsAreTaken);
        holds(5, "A refused call changes nothing.", Promise09Test::sentence5RefusedChangesNothing);
        holds(6, "Otherwise it works as in steps (1) to (4) of Dumps and answers the new dump number, which equals the "
            + "number of dumps taken before the call.", Promise09Test::sentence6WorksAndAnswersTheNumber);
        holds(7, "It changes only the clock (up by 1) and dumpdates[`level`], and it adds the new dump.",
            Promise09Test::sentence7ChangesClockDateAndAddsTheDump);
        holds(8, "The other dumpdates values, every live inode, every earlier dump and the restored state do not "
            + "change.", Promise09Test::sentence8NothingElseChanges);
        holds(9, "Captured inodes are counted in the dump's `DUMP_CAPTURED`.", Promise09Test::sentence9CountsCaptured);
        holds(10, "The root is never captured.", Promise09Test::sentence10TheRootIsNeverCaptured);
        end();
    }

    private static void sentence1TakesADump(Checks is) {
        for (int level = 0; level <= 9; level++) {
            DumpLevels x = States.least();
            is.answers(x, dumpInfo(0, DUMP_LEVEL), -1);
            is.answers(x, dump(level), 0);
            is.answers(x, dumpInfo(0, DUMP_LEVEL), level);
            is.answers(x, dumpInfo(1, DUMP_LEVEL), -1);
        }
    }

    private static void sentence2FirstConditionAnswers(Checks is) {
        for (int level : outside(0, 9)) {
            is.answers(States.full(), dump(level), ERR_LEVEL);
            is.answers(States.crowded(), dump(level), ERR_LEVEL);
        }
    }

    private static void sentence3LevelIsOutside(Checks is) {
        for (int level : outside(0, 9)) {
            is.answers(States.least(), dump(level), ERR_LEVEL);
            is.answers(States.busy(), dump(level), ERR_LEVEL);
        }
        is.answers(States.busy(), dump(-1), ERR_LEVEL);
        is.answers(States.busy(), dump(0), 2);
        is.answers(States.busy(), dump(9), 2);
        is.answers(States.busy(), dump(10), ERR_LEVEL);
    }

    private static void sentence4AllDumpsAreTaken(Checks is) {
        for (int limit = 2; limit <= 8; limit++) {
            DumpLevels x = new DumpLevels(4, limit);
            for (int d = 0; d < limit; d++) {
                is.answers(x, dump(d), d);
            }
            for (int level = 0; level <= 9; level++) {
                is.answers(x, dump(level), ERR_FULL);
            }
            // Nothing gives the room back.
            x.restoreReset();
            is.answers(x, restoreApply(0), OK);
            is.answers(x, create(0, 1, FILE), 1);
            is.answers(x, dump(0), ERR_FULL);
        }
    }

    private static void sentence5RefusedChangesNothing(Checks is) {
        for (int level : outside(0, 9)) {
            is.changesNothing(States::busy, dump(level), ERR_LEVEL);
            is.changesNothing(States::full, dump(level), ERR_LEVEL);
        }
        for (int level = 0; level <= 9; level++) {
            is.changesNothing(States::full, dump(level), ERR_FULL);
            is.changesNothing(States::crowded, dump(level), ERR_FULL);
        }
        States.all().values().forEach(state -> {
            is.changesNothing(state, dump(-1), ERR_LEVEL);
            is.changesNothing(state, dump(10), ERR_LEVEL);
        });
    }

    private static void sentence6WorksAndAnswersTheNumber(Checks is) {
        DumpLevels x = States.busy();
        is.answers(x, write(2, 5), OK);
        is.answers(x, remove(3), OK);
        is.answers(x, rename(4, 1, 20), OK);
        is.answers(x, dump(2), 2);
        // Step 1.
        is.answers(x, getClock(), 10);
        is.answers(x, dumpInfo(2, DUMP_STAMP), 10);
        // Step 2: level 0 has date 6, and level 3 is not lower.
        is.answers(x, dumpInfo(2, DUMP_BASE), 6);
        // Step 3.
        is.entry(x, 2, 0, DIR, 0, 0, 0, 0, 0);
        is.entry(x, 2, 1, DIR, 0, 10, 0, 0, 0);
        is.entry(x, 2, 2, FILE, 1, 11, 5, 9, 1);
        is.entry(x, 2, 3, FREE, 0, 0, 0, 0, 0);
        is.entry(x, 2, 4, FILE, 1, 20, -8, 7, 1);
        is.entry(x, 2, 5, FREE, 0, 0, 0, 0, 0);
        // Step 4.
        is.answers(x, dumpDate(2), 10);
        // Its own level is not lower either.
        is.answers(x, dump(2), 3);
        is.info(x, 3, 2, 11, 6, 2);
        DumpLevels greatest = States.greatest();
        for (int d = 0; d < 8; d++) {
            is.due("dumps before the call", d, dumpsOf(greatest));
            is.answers(greatest, dump(9), d);
        }
    }

    private static void sentence7ChangesClockDateAndAddsTheDump(Checks is) {
        DumpLevels x = States.least();
        x.create(0, 5, FILE);
        is.changes(x, dump(9), 0, "getClock() = 2", "dumpDate(9) = 2", "dumpInfo(0, LEVEL) = 9",
            "dumpInfo(0, STAMP) = 2", "dumpInfo(0, BASE) = 0", "dumpInfo(0, CAPTURED) = 1",
            "dumpEntry(0, 0, KIND) = 2", "dumpEntry(0, 0, PARENT) = 0", "dumpEntry(0, 0, NAME) = 0",
            "dumpEntry(0, 0, CONTENT) = 0", "dumpEntry(0, 0, STAMP) = 0", "dumpEntry(0, 0, CAPTURED) = 0",
            "dumpEntry(0, 1, KIND) = 1", "dumpEntry(0, 1, PARENT) = 0", "dumpEntry(0, 1, NAME) = 5",
            "dumpEntry(0, 1, CONTENT) = 0", "dumpEntry(0, 1, STAMP) = 1", "dumpEntry(0, 1, CAPTURED) = 1",
            "dumpEntry(0, 2, KIND) = 0", "dumpEntry(0, 2, PARENT) = 0", "dumpEntry(0, 2, NAME) = 0",
            "dumpEntry(0, 2, CONTENT) = 0", "dumpEntry(0, 2, STAMP) = 0", "dumpEntry(0, 2, CAPTURED) = 0",
            "dumpEntry(0, 3, KIND) = 0", "dumpEntry(0, 3, PARENT) = 0", "dumpEntry(0, 3, NAME) = 0",
            "dumpEntry(0, 3, CONTENT) = 0", "dumpEntry(0, 3, STAMP) = 0", "dumpEntry(0, 3, CAPTURED) = 0");
    }

    private static void sentence8NothingElseChanges(Checks is) {
        for (int level = 0; level <= 9; level++) {
            DumpLevels x = States.busy();
            x.write(2, 6);
            int[] before = Shown.by(x);
            is.answers(x, dump(level), 2);
            is.answers(x, getClock(), 10);
            is.answers(x, dumpDate(level), 10);
            for (String changed : Shown.changes(before, Shown.by(x))) {
                is.due(changed + " is no change of dump(" + level + ")", true, changed.startsWith("dumpInfo(2, ")
                    || changed.startsWith("dumpEntry(2, ") || changed.startsWith("dumpDate(" + level + ")")
                    || changed.startsWith("getClock()"));
            }
        }
    }

    private static void sentence9CountsCaptured(Checks is) {
        DumpLevels x = new DumpLevels(16, 8);
        is.answers(x, dump(0), 0);
        is.answers(x, dumpInfo(0, DUMP_CAPTURED), 0);
        for (int i = 1; i < 16; i++) {
            x.create(0, i, i % 2 == 0 ? DIR : FILE);
        }
        is.answers(x, dump(1), 1);
        is.answers(x, dumpInfo(1, DUMP_CAPTURED), 15);
        is.answers(x, dump(2), 2);
        is.answers(x, dumpInfo(2, DUMP_CAPTURED), 0);
        x.write(1, 1);
        x.write(15, 1);
        x.rename(3, 2, 1);
        is.answers(x, dump(2), 3);
        is.answers(x, dumpInfo(3, DUMP_CAPTURED), 2);
        x.remove(15);
        is.answers(x, dump(2), 4);
        is.answers(x, dumpInfo(4, DUMP_CAPTURED), 1);
        int[] counts = {0, 15, 0, 2, 1};
        for (int d = 0; d < counts.length; d++) {
            is.answers(x, dumpInfo(d, DUMP_CAPTURED), counts[d]);
        }
        MixedRun.all((n, limit) -> (y, step) -> {
            if (step.is("dump") && step.answer() >= 0) {
                int captured = 0;
                for (int i = 0; i < n; i++) {
                    captured += y.dumpEntry(step.answer(), i, CAPTURED);
                }
                is.answers(y, dumpInfo(step.answer(), DUMP_CAPTURED), captured);
            }
        });
    }

    private static void sentence10TheRootIsNeverCaptured(Checks is) {
        for (int level = 0; level <= 9; level++) {
            DumpLevels x = States.least();
            x.dump(level);
            is.entry(x, 0, 0, DIR, 0, 0, 0, 0, 0);
            is.answers(x, dumpInfo(0, DUMP_CAPTURED), 0);
        }
        DumpLevels crowded = States.crowded();
        for (int d = 0; d < 8; d++) {
            is.entry(crowded, d, 0, DIR, 0, 0, 0, 0, 0);
        }
    }
}
