import java.util.TreeMap;

/** A test for each sentence of promise 10: dumpInfo. */
public final class Promise10Test extends Sentences {
    public static void main(String[] args) {
        section("Promise 10");
        holds(1, "`dumpInfo(d, what)` answers, for dump `d`, its LEVEL (`DUMP_LEVEL`), STAMP (`DUMP_STAMP`), BASE "
            + "(`DUMP_BASE`) or number of captured inodes (`DUMP_CAPTURED`).", Promise10Test::sentence1Answers);
        holds(2, "It answers -1 if `d` is not a taken dump or `what` is not in 0..3.",
            Promise10Test::sentence2DumpOrWhatIsOutside);
        holds(3, "Nothing changes.", Promise10Test::sentence3NothingChanges);
        holds(4, "The answers for a dump never change after it is taken.", Promise10Test::sentence4NeverChange);
        end();
    }

    private static void sentence1Answers(Checks is) {
        DumpLevels x = States.busy();
        is.answers(x, dumpInfo(1, 0), 3);
        is.answers(x, dumpInfo(1, 1), 8);
        is.answers(x, dumpInfo(1, 2), 6);
        is.answers(x, dumpInfo(1, 3), 1);
        is.info(x, 0, 0, 6, 0, 4);
        DumpLevels crowded = States.crowded();
        is.info(crowded, 0, 0, 17, 0, 15);
        for (int d = 1; d < 8; d++) {
            is.info(crowded, d, d, 17 + 2 * d, 15 + 2 * d, 1);
        }
    }

    private static void sentence2DumpOrWhatIsOutside(Checks is) {
        for (int limit = 2; limit <= 8; limit++) {
            DumpLevels x = new DumpLevels(4, limit);
            for (int taken = 0; taken <= limit; taken++) {
                for (int what = 0; what <= 3; what++) {
                    for (int d = taken; d < 10; d++) {
                        is.answers(x, dumpInfo(d, what), -1);
                    }
                    for (int d : outside(0, 8)) {
                        is.answers(x, dumpInfo(d, what), -1);
                    }
                }
                for (int d = 0; d < taken; d++) {
                    is.due("dumpInfo(" + d + ", STAMP) is an answer", true, x.dumpInfo(d, DUMP_STAMP) > 0);
                    for (int what : outside(0, 3)) {
                        is.answers(x, dumpInfo(d, what), -1);
                    }
                }
                is.answers(x, dumpInfo(taken, 4), -1);
                is.answers(x, dumpInfo(-1, -1), -1);
                x.dump(taken);
            }
        }
    }

    private static void sentence3NothingChanges(Checks is) {
        for (int what = 0; what <= 3; what++) {
            is.changesNothing(States::busy, dumpInfo(1, what), new int[] {3, 8, 6, 1}[what]);
            is.changesNothing(States::crowded, dumpInfo(7, what), new int[] {7, 31, 29, 1}[what]);
            is.changesNothing(States::busy, dumpInfo(2, what), -1);
        }
        States.all().values().forEach(state -> {
            is.changesNothing(state, dumpInfo(-1, DUMP_LEVEL), -1);
            is.changesNothing(state, dumpInfo(8, DUMP_LEVEL), -1);
            is.changesNothing(state, dumpInfo(0, -1), -1);
            is.changesNothing(state, dumpInfo(0, 4), -1);
            is.changesNothing(state, dumpInfo(MIN, MAX), -1);
        });
    }

    private static void sentence4NeverChange(Checks is) {
        MixedRun.all((n, limit) -> {
            TreeMap<Integer, int[]> atFirst = new TreeMap<>();
            return (x, step) -> {
                if (step.is("dump") && step.answer() >= 0) {
                    int d = step.answer();
                    atFirst.put(d, new int[] {x.dumpInfo(d, 0), x.dumpInfo(d, 1), x.dumpInfo(d, 2), x.dumpInfo(d, 3)});
                }
                atFirst.forEach((d, info) -> is.info(x, d, info[0], info[1], info[2], info[3]));
            };
        });
    }
}
