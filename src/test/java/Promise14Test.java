import java.util.TreeMap;

/** A test for each sentence of promise 14: restoreApply. ClockLimitTest has 14 to 17 at the clock's limit. */
public final class Promise14Test extends Sentences {
    public static void main(String[] args) {
        section("Promise 14");
        holds(1, "`restoreApply(d)` applies dump `d` to the restored file system.", Promise14Test::sentence1Applies);
        holds(2, "Conditions in order:", Promise14Test::sentence2FirstConditionAnswers);
        holds(3, "`d` is not a taken dump -> `ERR_NO_DUMP`;", Promise14Test::sentence3NotATakenDump);
        holds(4, "BASE(`d`) != restoreStamp -> `ERR_CHAIN`.", Promise14Test::sentence4BaseIsNotTheStamp);
        holds(5, "A refused call changes nothing.", Promise14Test::sentence5RefusedChangesNothing);
        holds(6, "On success, for every inode i in 0..N-1 in ascending order:", Promise14Test::sentence6EveryInode);
        holds(7, "restored KIND, PARENT and NAME of i become `d`'s map entry for i;",
            Promise14Test::sentence7MapEntry);
        holds(8, "if i is captured in `d`, restored CONTENT and STAMP become the values `d` recorded;",
            Promise14Test::sentence8CapturedValues);
        holds(9, "else if the map entry's KIND is FREE, they become 0;", Promise14Test::sentence9FreeBecomesZero);
        holds(10, "else they are kept.", Promise14Test::sentence10OthersAreKept);
        holds(11, "Then restoreStamp becomes STAMP(`d`), and the answer is `OK`.",
            Promise14Test::sentence11StampAndAnswer);
        holds(12, "The live file system, the clock, the dumps and the dumpdates do not change.",
            Promise14Test::sentence12ChangesNothingElse);
        holds(13, "So, in every state, `restoreApply(e)` for a taken dump e answers `OK` if and only if "
            + "`dumpInfo(e, DUMP_BASE) == restoreStamp()`; otherwise it answers `ERR_CHAIN` and changes nothing.",
            Promise14Test::sentence13OkIffTheBaseIsTheStamp);
        holds(14, "Chain restore: for every sequence of calls in which the clock has not passed Integer.MAX_VALUE, and "
            + "every taken dump d with chain d1, .., dk = d, if `restoreReset()` is followed by `restoreApply(d1)`, "
            + ".., `restoreApply(dk)`, every one of these answers `OK`.", Promise14Test::sentence14ChainAnswersOk);
        holds(15, "Afterwards `restoreStamp()` equals STAMP(d).", Promise14Test::sentence15StampAfterTheChain);
        holds(16, "For every inode i in 0..N-1 and every field f in 0..4, `restoredInfo(i, f)` equals the value "
            + "`inodeInfo(i, f)` had right after `dump(...)` returned d.",
            Promise14Test::sentence16FieldsAsAtTheDump);
        holds(17, "So if no create, write, remove or rename has succeeded since then, `restoreMatches()` is true.",
            Promise14Test::sentence17MatchesIfNothingSucceeded);
        end();
    }

    private static void sentence1Applies(Checks is) {
        DumpLevels x = States.busy();
        x.restoreReset();
        is.restored(x, 2, FREE, 0, 0, 0, 0);
        is.answers(x, restoreApply(0), OK);
        is.restored(x, 0, DIR, 0, 0, 0, 0);
        is.restored(x, 1, DIR, 0, 10, 0, 1);
        is.restored(x, 2, FILE, 1, 11, 77, 5);
        is.restored(x, 3, DIR, 1, 12, 0, 3);
        is.restored(x, 4, FILE, 0, 13, 0, 4);
        is.restored(x, 5, FREE, 0, 0, 0, 0);
    }

    private static void sentence2FirstConditionAnswers(Checks is) {
        // A dump that is not taken has no base; with restoreStamp 0 and with another it is ERR_NO_DUMP.
        DumpLevels x = States.busy();
        for (int d : new int[] {-1, 2, 3, 4, 8, MIN, MAX}) {
            is.answers(x, restoreApply(d), ERR_NO_DUMP);
        }
        x.restoreReset();
        for (int d : new int[] {-1, 2, 3, 4, 8, MIN, MAX}) {
            is.answers(x, restoreApply(d), ERR_NO_DUMP);
        }
        is.answers(x, restoreApply(1), ERR_CHAIN);
    }

    private static void sentence3NotATakenDump(Checks is) {
        for (int limit = 2; limit <= 8; limit++) {
            DumpLevels x = new DumpLevels(4, limit);
            for (int taken = 0; taken <= limit; taken++) {
                for (int d = taken; d < 10; d++) {
                    is.answers(x, restoreApply(d), ERR_NO_DUMP);
                }
                for (int d : outside(0, 8)) {
                    is.answers(x, restoreApply(d), ERR_NO_DUMP);
                }
                for (int d = 0; d < taken; d++) {
                    x.restoreReset();
                    is.answers(x, restoreApply(d), OK);
                }
                x.dump(0);
            }
        }
    }

    private static void sentence4BaseIsNotTheStamp(Checks is) {
        DumpLevels x = States.busy();
        x.write(2, 1);
        x.dump(3);
        // The bases are 0, 6 and 6; the stamps 6, 8 and 10.
        is.answers(x, restoreApply(0), ERR_CHAIN);
        is.answers(x, restoreApply(2), OK);
        is.answers(x, restoreApply(0), ERR_CHAIN);
        is.answers(x, restoreApply(1), ERR_CHAIN);
        is.answers(x, restoreApply(2), ERR_CHAIN);
        x.restoreReset();
        is.answers(x, restoreApply(1), ERR_CHAIN);
        is.answers(x, restoreApply(2), ERR_CHAIN);
        is.answers(x, restoreApply(0), OK);
        is.answers(x, restoreApply(1), OK);
        // A base right below and right above restoreStamp will not do.
        DumpLevels near = States.greatest();
        near.dump(0);
        near.dump(0);
        near.dump(1);
        near.dump(0);
        near.dump(1);
        is.answers(near, restoreApply(0), OK);
        is.answers(near, restoreApply(2), ERR_CHAIN);
        near.restoreReset();
        is.answers(near, restoreApply(1), OK);
        is.answers(near, restoreApply(4), ERR_CHAIN);
        is.answers(near, restoreApply(2), OK);
        is.answers(near, restoreApply(4), ERR_CHAIN);
    }

    private static void sentence5RefusedChangesNothing(Checks is) {
        for (int d : outside(0, 7)) {
            States.all().values().forEach(state -> is.changesNothing(state, restoreApply(d), ERR_NO_DUMP));
        }
        is.changesNothing(States::least, restoreApply(0), ERR_NO_DUMP);
        is.changesNothing(States::dumped, restoreApply(1), ERR_CHAIN);
        is.changesNothing(States::busy, restoreApply(2), ERR_NO_DUMP);
        is.changesNothing(States::busy, restoreApply(0), ERR_CHAIN);
        is.changesNothing(States::full, restoreApply(0), ERR_CHAIN);
        is.changesNothing(States::full, restoreApply(1), ERR_CHAIN);
        is.changesNothing(States::full, restoreApply(2), ERR_NO_DUMP);
        is.changesNothing(States::emptied, restoreApply(0), ERR_CHAIN);
        is.changesNothing(States::emptied, restoreApply(1), ERR_CHAIN);
        is.changesNothing(Promise14Test::busyReset, restoreApply(1), ERR_CHAIN);
        is.changesNothing(Promise14Test::busyReset, restoreApply(2), ERR_NO_DUMP);
        for (int d : new int[] {0, 1, 3, 4, 5, 6, 7}) {
            is.changesNothing(States::crowded, restoreApply(d), ERR_CHAIN);
        }
    }

    private static DumpLevels busyReset() {
        DumpLevels x = States.busy();
        x.restoreReset();
        return x;
    }

    private static void sentence6EveryInode(Checks is) {
        for (int n = 4; n <= 16; n++) {
            DumpLevels x = new DumpLevels(n, 2);
            for (int i = 1; i < n; i++) {
                x.create(0, i, FILE);
                x.write(i, 100 + i);
            }
            x.dump(0);
            for (int i = 1; i < n; i++) {
                x.remove(i);
            }
            x.dump(1);
            is.answers(x, restoreApply(0), OK);
            is.restored(x, 0, DIR, 0, 0, 0, 0);
            for (int i = 1; i < n; i++) {
                is.restored(x, i, FILE, 0, i, 100 + i, 2 * i);
            }
            is.answers(x, restoreApply(1), OK);
            is.restored(x, 0, DIR, 0, 0, 0, 0);
            for (int i = 1; i < n; i++) {
                is.restored(x, i, FREE, 0, 0, 0, 0);
            }
        }
    }

    private static void sentence7MapEntry(Checks is) {
        DumpLevels x = States.busy();
        x.restoreApply(1);
        // Moved, named anew, removed, taken again as another kind, and new.
        x.rename(2, 0, 255);
        x.rename(1, 0, 1);
        x.remove(3);
        x.remove(4);
        x.create(1, 30, FILE);
        x.dump(9);
        x.remove(3);
        is.answers(x, restoreApply(2), OK);
        for (int i = 0; i < 6; i++) {
            is.answers(x, restoredInfo(i, KIND), x.dumpEntry(2, i, KIND));
            is.answers(x, restoredInfo(i, PARENT), x.dumpEntry(2, i, PARENT));
            is.answers(x, restoredInfo(i, NAME), x.dumpEntry(2, i, NAME));
        }
        is.restored(x, 1, DIR, 0, 1, 0, 1);
        is.restored(x, 2, FILE, 0, 255, 77, 5);
        is.restored(x, 3, FILE, 1, 30, 0, 9);
        is.restored(x, 4, FREE, 0, 0, 0, 0);
    }

    private static void sentence8CapturedValues(Checks is) {
        DumpLevels x = States.busy();
        is.restored(x, 4, FILE, 0, 13, 0, 4);
        is.answers(x, restoreApply(1), OK);
        is.restored(x, 4, FILE, 0, 13, -8, 7);
        x.write(2, MIN);
        x.write(4, 0);
        x.create(0, 40, DIR);
        x.dump(9);
        x.write(2, 3);
        is.answers(x, restoreApply(2), OK);
        is.restored(x, 2, FILE, 1, 11, MIN, 9);
        is.restored(x, 4, FILE, 0, 13, 0, 10);
        is.restored(x, 5, DIR, 0, 40, 0, 11);
    }

    private static void sentence9FreeBecomesZero(Checks is) {
        DumpLevels x = States.busy();
        x.restoreApply(1);
        x.remove(2);
        x.remove(4);
        x.dump(9);
        is.answers(x, create(0, 50, FILE), 2);
        is.answers(x, restoreApply(2), OK);
        is.restored(x, 2, FREE, 0, 0, 0, 0);
        is.restored(x, 4, FREE, 0, 0, 0, 0);
        is.restored(x, 5, FREE, 0, 0, 0, 0);
    }

    private static void sentence10OthersAreKept(Checks is) {
        DumpLevels x = States.busy();
        x.rename(2, 3, 200);
        x.rename(1, 0, 201);
        x.dump(9);
        is.answers(x, restoreApply(1), OK);
        is.answers(x, restoreApply(2), OK);
        is.entry(x, 2, 2, FILE, 3, 200, 0, 0, 0);
        is.restored(x, 1, DIR, 0, 201, 0, 1);
        is.restored(x, 2, FILE, 3, 200, 77, 5);
        is.restored(x, 3, DIR, 1, 12, 0, 3);
        is.restored(x, 4, FILE, 0, 13, -8, 7);
        // The live side has gone on since; what is kept is the restored value.
        x.write(2, 1);
        x.dump(9);
        x.restoreReset();
        x.restoreApply(0);
        x.restoreApply(1);
        is.restored(x, 2, FILE, 1, 11, 77, 5);
        is.answers(x, restoreApply(3), OK);
        is.restored(x, 2, FILE, 3, 200, 1, 10);
        is.restored(x, 4, FILE, 0, 13, -8, 7);
    }

    private static void sentence11StampAndAnswer(Checks is) {
        DumpLevels x = States.crowded();
        x.restoreReset();
        for (int d = 0; d < 8; d++) {
            is.answers(x, restoreApply(d), 0);
            is.answers(x, restoreStamp(), 17 + 2 * d);
        }
        DumpLevels first = States.least();
        first.dump(9);
        is.answers(first, restoreApply(0), 0);
        is.answers(first, restoreStamp(), 1);
    }

    private static void sentence12ChangesNothingElse(Checks is) {
        is.changes(States.busy(), restoreApply(1), OK, "restoreStamp() = 8", "restoredInfo(4, CONTENT) = -8",
            "restoredInfo(4, STAMP) = 7", "restoreMatches() = 1");
        is.changes(States.crowded(), restoreApply(2), OK, "restoreStamp() = 21", "restoredInfo(10, CONTENT) = 502",
            "restoredInfo(10, STAMP) = 20");
        is.changes(States.dumped(), restoreApply(0), OK, "restoreStamp() = 6", "restoredInfo(1, KIND) = 2",
            "restoredInfo(1, NAME) = 10", "restoredInfo(1, STAMP) = 1", "restoredInfo(2, KIND) = 1",
            "restoredInfo(2, PARENT) = 1", "restoredInfo(2, NAME) = 11", "restoredInfo(2, CONTENT) = 77",
            "restoredInfo(2, STAMP) = 5", "restoredInfo(3, KIND) = 2", "restoredInfo(3, PARENT) = 1",
            "restoredInfo(3, NAME) = 12", "restoredInfo(3, STAMP) = 3", "restoredInfo(4, KIND) = 1",
            "restoredInfo(4, NAME) = 13", "restoredInfo(4, STAMP) = 4");
    }

    private static void sentence13OkIffTheBaseIsTheStamp(Checks is) {
        MixedRun.all((n, limit) -> (x, step) -> {
            if (step.is("restoreApply") && x.dumpInfo(step.argument(0), DUMP_LEVEL) != -1) {
                boolean fits = x.dumpInfo(step.argument(0), DUMP_BASE) == step.stampBefore();
                is.due("restoreApply of base " + x.dumpInfo(step.argument(0), DUMP_BASE) + " at " + step.stampBefore(),
                    fits ? OK : ERR_CHAIN, step.answer());
            }
        });
        // From every state that a chain of this object leads to, every dump is tried.
        DumpLevels made = manyLevels();
        for (int last = 0; last < 8; last++) {
            for (int e = 0; e < 8; e++) {
                int reached = last;
                boolean fits = made.dumpInfo(e, DUMP_BASE) == made.dumpInfo(last, DUMP_STAMP);
                if (fits) {
                    is.answers(restoredTo(reached), restoreApply(e), OK);
                } else {
                    is.changesNothing(() -> restoredTo(reached), restoreApply(e), ERR_CHAIN);
                }
            }
        }
    }

    private static DumpLevels manyLevels() {
        DumpLevels x = new DumpLevels(5, 8);
        x.create(0, 1, FILE);
        x.create(0, 2, DIR);
        for (int level : new int[] {3, 0, 5, 4, 5, 1, 9, 2}) {
            x.write(1, level);
            x.rename(1, level % 2 == 0 ? 0 : 2, 10 + level);
            x.dump(level);
        }
        return x;
    }

    private static DumpLevels restoredTo(int d) {
        DumpLevels x = manyLevels();
        chainOf(x, d).forEach(x::restoreApply);
        return x;
    }

    /** Compares, after the chain of each dump of a mixed run was applied, what the test wants to see. */
    private interface AfterChain {
        void look(DumpLevels x, int d, int[] liveAtDump);
    }

    private static void afterEveryChain(Checks is, AfterChain then) {
        MixedRun.all((n, limit) -> new MixedRun.Look() {
            private final TreeMap<Integer, int[]> liveAtDump = new TreeMap<>();

            @Override
            public void after(DumpLevels x, MixedRun.Step step) {
                if (step.is("dump") && step.answer() >= 0) {
                    liveAtDump.put(step.answer(), liveFields(x, n));
                }
            }

            @Override
            public void end(DumpLevels x) {
                liveAtDump.forEach((d, live) -> {
                    x.restoreReset();
                    chainOf(x, d).forEach(k -> is.answers(x, restoreApply(k), OK));
                    then.look(x, d, live);
                });
            }
        });
    }

    private static int[] liveFields(DumpLevels x, int n) {
        int[] fields = new int[5 * n];
        for (int k = 0; k < fields.length; k++) {
            fields[k] = x.inodeInfo(k / 5, k % 5);
        }
        return fields;
    }

    private static void sentence14ChainAnswersOk(Checks is) {
        afterEveryChain(is, (x, d, live) -> {
        });
        // The longest chain there is, and the shortest.
        DumpLevels x = States.crowded();
        x.restoreReset();
        for (int d = 0; d < 8; d++) {
            is.answers(x, restoreApply(d), OK);
        }
        x.restoreReset();
        is.answers(x, restoreApply(0), OK);
    }

    private static void sentence15StampAfterTheChain(Checks is) {
        afterEveryChain(is, (x, d, live) -> is.answers(x, restoreStamp(), x.dumpInfo(d, DUMP_STAMP)));
    }

    private static void sentence16FieldsAsAtTheDump(Checks is) {
        afterEveryChain(is, (x, d, live) -> {
            for (int k = 0; k < live.length; k++) {
                is.answers(x, restoredInfo(k / 5, k % 5), live[k]);
            }
        });
    }

    private static void sentence17MatchesIfNothingSucceeded(Checks is) {
        MixedRun.all((n, limit) -> (x, step) -> {
            if (step.is("dump") && step.answer() >= 0) {
                x.restoreReset();
                chainOf(x, step.answer()).forEach(x::restoreApply);
                is.answers(x, restoreMatches(), 1);
            }
        });
        // Refused calls, asking calls and dumps are none of the four.
        DumpLevels x = States.busy();
        is.answers(x, create(0, 10, FILE), ERR_EXISTS);
        is.answers(x, write(1, 1), ERR_KIND);
        is.answers(x, remove(1), ERR_NOT_EMPTY);
        is.answers(x, rename(1, 3, 1), ERR_CYCLE);
        is.answers(x, dump(0), 2);
        is.answers(x, dump(9), 3);
        for (int d = 1; d < 4; d++) {
            x.restoreReset();
            chainOf(x, d).forEach(x::restoreApply);
            is.answers(x, restoreMatches(), 1);
        }
        DumpLevels empty = States.least();
        empty.dump(5);
        is.answers(empty, restoreApply(0), OK);
        is.answers(empty, restoreMatches(), 1);
    }
}
