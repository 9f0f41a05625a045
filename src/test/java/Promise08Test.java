/** A test for each sentence of promise 8: getClock. */
public final class Promise08Test extends Sentences {
    public static void main(String[] args) {
        section("Promise 8");
        holds(1, "`getClock()` answers the current clock value.", Promise08Test::sentence1AnswersTheClock);
        holds(2, "Nothing changes.", Promise08Test::sentence2NothingChanges);
        end();
    }

    private static void sentence1AnswersTheClock(Checks is) {
        DumpLevels x = States.least();
        is.answers(x, getClock(), 0);
        is.answers(x, create(0, 1, FILE), 1);
        is.answers(x, getClock(), 1);
        is.answers(x, write(1, 100), OK);
        is.answers(x, getClock(), 2);
        is.answers(x, dump(0), 0);
        is.answers(x, getClock(), 3);
        is.answers(x, write(0, 1), ERR_INODE);
        is.answers(x, rename(1, 0, 2), OK);
        is.answers(x, restoreApply(0), OK);
        is.answers(x, remove(1), OK);
        x.restoreReset();
        is.answers(x, getClock(), 3);
        is.answers(x, dump(9), 1);
        is.answers(x, dump(9), ERR_FULL);
        is.answers(x, getClock(), 4);
    }

    private static void sentence2NothingChanges(Checks is) {
        is.changesNothing(States::least, getClock(), 0);
        is.changesNothing(States::greatest, getClock(), 0);
        is.changesNothing(States::dumped, getClock(), 8);
        is.changesNothing(States::busy, getClock(), 8);
        is.changesNothing(States::full, getClock(), 9);
        is.changesNothing(States::crowded, getClock(), 31);
        is.changesNothing(States::emptied, getClock(), 8);
    }
}
