/** A test for each sentence of promise 12: dumpDate. */
public final class Promise12Test extends Sentences {
    public static void main(String[] args) {
        section("Promise 12");
        holds(1, "`dumpDate(level)` answers dumpdates[`level`], or -1 if `level` is not in 0..9.",
            Promise12Test::sentence1AnswersTheDateOrMinusOne);
        holds(2, "It is 0 for a level that has no dump yet.", Promise12Test::sentence2ZeroWithoutADump);
        holds(3, "Nothing changes.", Promise12Test::sentence3NothingChanges);
        end();
    }

    private static void sentence1AnswersTheDateOrMinusOne(Checks is) {
        DumpLevels x = States.greatest();
        x.dump(0);
        x.dump(9);
        x.dump(1);
        x.dump(8);
        x.dump(0);
        is.answers(x, dumpDate(0), 5);
        is.answers(x, dumpDate(1), 3);
        is.answers(x, dumpDate(8), 4);
        is.answers(x, dumpDate(9), 2);
        for (int level : outside(0, 9)) {
            is.answers(x, dumpDate(level), -1);
            is.answers(States.least(), dumpDate(level), -1);
            is.answers(States.crowded(), dumpDate(level), -1);
        }
        is.answers(x, dumpDate(-1), -1);
        is.answers(x, dumpDate(10), -1);
    }

    private static void sentence2ZeroWithoutADump(Checks is) {
        for (int dumped = 0; dumped <= 9; dumped++) {
            DumpLevels x = States.least();
            x.create(0, 1, FILE);
            is.answers(x, dumpDate(dumped), 0);
            x.dump(dumped);
            for (int level = 0; level <= 9; level++) {
                is.answers(x, dumpDate(level), level == dumped ? 2 : 0);
            }
        }
    }

    private static void sentence3NothingChanges(Checks is) {
        int[] dates = {6, 0, 0, 8, 0, 0, 0, 0, 0, 0};
        for (int level = 0; level <= 9; level++) {
            is.changesNothing(States::busy, dumpDate(level), dates[level]);
        }
        States.all().values().forEach(state -> {
            for (int level : outside(0, 9)) {
                is.changesNothing(state, dumpDate(level), -1);
            }
        });
    }
}
