/** A test for each sentence of promise 15: restoreStamp. */
public final class Promise15Test extends Sentences {
    public static void main(String[] args) {
        section("Promise 15");
        holds(1, "`restoreStamp()` answers restoreStamp: 0, or the STAMP of the last dump applied since the last reset "
            + "(or since construction).", Promise15Test::sentence1LastAppliedSinceTheReset);
        holds(2, "Nothing changes.", Promise15Test::sentence2NothingChanges);
        end();
    }

    private static void sentence1LastAppliedSinceTheReset(Checks is) {
        DumpLevels x = States.least();
        is.answers(x, restoreStamp(), 0);
        x.create(0, 1, FILE);
        x.dump(0);
        is.answers(x, restoreStamp(), 0);
        is.answers(x, restoreApply(1), ERR_NO_DUMP);
        is.answers(x, restoreStamp(), 0);
        is.answers(x, restoreApply(0), OK);
        is.answers(x, restoreStamp(), 2);
        x.write(1, 1);
        x.dump(1);
        is.answers(x, restoreStamp(), 2);
        is.answers(x, restoreApply(1), OK);
        is.answers(x, restoreStamp(), 4);
        is.answers(x, restoreApply(0), ERR_CHAIN);
        is.answers(x, restoreStamp(), 4);
        x.restoreReset();
        is.answers(x, restoreStamp(), 0);
        is.answers(x, restoreApply(0), OK);
        is.answers(x, restoreStamp(), 2);
        MixedRun.all((n, limit) -> (y, step) -> {
            int due = step.stampBefore();
            if (step.is("restoreReset")) {
                due = 0;
            } else if (step.is("restoreApply") && step.answer() == OK) {
                due = y.dumpInfo(step.argument(0), DUMP_STAMP);
            }
            is.due("restoreStamp() after " + step.name(), due, y.restoreStamp());
        });
    }

    private static void sentence2NothingChanges(Checks is) {
        is.changesNothing(States::least, restoreStamp(), 0);
        is.changesNothing(States::greatest, restoreStamp(), 0);
        is.changesNothing(States::dumped, restoreStamp(), 0);
        is.changesNothing(States::busy, restoreStamp(), 6);
        is.changesNothing(States::full, restoreStamp(), 9);
        is.changesNothing(States::crowded, restoreStamp(), 19);
        is.changesNothing(States::emptied, restoreStamp(), 8);
    }
}
