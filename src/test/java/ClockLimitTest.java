import java.util.List;
import java.util.stream.IntStream;

/**
 * The sentences that name Integer.MAX_VALUE as the clock's limit, on objects whose clock was brought there
 * by some two thousand million writes: the limit itself is not passed, so all of them still hold.
 */
public final class ClockLimitTest extends Sentences {
    private static final int OBJECTS = 4;
    private static List<DumpLevels> near;

    public static void main(String[] args) {
        near = IntStream.range(0, OBJECTS).parallel().mapToObj(k -> nearTheLimit()).toList();
        section("Terms, Clock, at Integer.MAX_VALUE");
        holds(2, "Only a successful create, write or dump increases it, by exactly 1 each time.",
            ClockLimitTest::clock2ReachesTheLimitByOne);
        section("Terms, Chain, at Integer.MAX_VALUE");
        holds(2, "As long as the clock has not passed Integer.MAX_VALUE, every nonzero dumpdates value is the stamp "
            + "of exactly one dump, so each dj exists and is unique.", ClockLimitTest::chain2EachDateIsOneDumpsStamp);
        section("Promise 14, at Integer.MAX_VALUE");
        holds(14, "Chain restore: for every sequence of calls in which the clock has not passed Integer.MAX_VALUE, and "
            + "every taken dump d with chain d1, .., dk = d, if `restoreReset()` is followed by `restoreApply(d1)`, "
            + ".., `restoreApply(dk)`, every one of these answers `OK`.", ClockLimitTest::promise14Sentence14);
        holds(15, "Afterwards `restoreStamp()` equals STAMP(d).", ClockLimitTest::promise14Sentence15);
        holds(16, "For every inode i in 0..N-1 and every field f in 0..4, `restoredInfo(i, f)` equals the value "
            + "`inodeInfo(i, f)` had right after `dump(...)` returned d.", ClockLimitTest::promise14Sentence16);
        holds(17, "So if no create, write, remove or rename has succeeded since then, `restoreMatches()` is true.",
            ClockLimitTest::promise14Sentence17);
        section("LANGUAGE.md, past Integer.MAX_VALUE");
        holds(7, "No call may ever throw or fail to end, for any arguments in any state",
            ClockLimitTest::rule7NothingIsThrownPastTheLimit);
        end();
    }

    /** Inode 1 is a directory, 2 a file (9) in it; dump 0 has stamp 3. The clock is five below the limit. */
    private static DumpLevels nearTheLimit() {
        DumpLevels x = new DumpLevels(5, 4);
        x.create(0, 1, DIR);
        x.create(1, 2, FILE);
        x.dump(0);
        for (int clock = x.getClock(); clock < MAX - 5; clock++) {
            x.write(2, 9);
        }
        return x;
    }

    /** Brings every object to the limit: by a create, a write, a dump of level 0 and one of level 9. */
    private static void clock2ReachesTheLimitByOne(Checks is) {
        for (int k = 0; k < OBJECTS; k++) {
            DumpLevels x = near.get(k);
            is.answers(x, getClock(), MAX - 5);
            is.answers(x, create(0, 3, FILE), 3);
            is.live(x, 3, FILE, 0, 3, 0, MAX - 4);
            is.answers(x, dump(5), 1);
            is.info(x, 1, 5, MAX - 3, 3, 2);
            is.entry(x, 1, 2, FILE, 1, 2, 9, MAX - 5, 1);
            is.answers(x, write(3, 7), OK);
            is.answers(x, rename(2, 0, 20), OK);
            is.answers(x, dump(6), 2);
            is.info(x, 2, 6, MAX - 1, MAX - 3, 1);
            is.answers(x, getClock(), MAX - 1);
        }
        is.answers(near.get(0), create(1, 4, FILE), 4);
        is.live(near.get(0), 4, FILE, 1, 4, 0, MAX);
        is.answers(near.get(1), write(3, 8), OK);
        is.live(near.get(1), 3, FILE, 0, 3, 8, MAX);
        is.answers(near.get(2), dump(0), 3);
        is.info(near.get(2), 3, 0, MAX, 0, 3);
        is.answers(near.get(3), dump(9), 3);
        is.info(near.get(3), 3, 9, MAX, MAX - 1, 0);
        for (DumpLevels x : near) {
            is.answers(x, getClock(), MAX);
            is.answers(x, write(1, 1), ERR_KIND);
            is.answers(x, dump(10), ERR_LEVEL);
            is.answers(x, getClock(), MAX);
        }
    }

    private static void chain2EachDateIsOneDumpsStamp(Checks is) {
        int[][] dates = {{3, MAX - 3, MAX - 1, 0}, {3, MAX - 3, MAX - 1, 0}, {MAX, MAX - 3, MAX - 1, 0},
            {3, MAX - 3, MAX - 1, MAX}};
        int[] levels = {0, 5, 6, 9};
        for (int k = 0; k < OBJECTS; k++) {
            DumpLevels x = near.get(k);
            for (int j = 0; j < levels.length; j++) {
                int date = dates[k][j];
                is.answers(x, dumpDate(levels[j]), date);
                long holders = IntStream.range(0, dumpsOf(x)).filter(d -> x.dumpInfo(d, DUMP_STAMP) == date).count();
                is.due("dumps with stamp " + date, date == 0 ? 0 : 1, holders);
            }
        }
        chainIs(is, near.get(0), 2, List.of(0, 1, 2));
        chainIs(is, near.get(2), 3, List.of(3));
        chainIs(is, near.get(3), 3, List.of(0, 1, 2, 3));
    }

    private static void chainIs(Checks is, DumpLevels x, int d, List<Integer> want) {
        List<Integer> got = chainOf(x, d);
        is.due("the chain of dump " + d + " is " + got + ", due is " + want, true, got.equals(want));
    }

    private static void promise14Sentence14(Checks is) {
        for (DumpLevels x : near) {
            for (int d = 0; d < dumpsOf(x); d++) {
                x.restoreReset();
                chainOf(x, d).forEach(k -> is.answers(x, restoreApply(k), OK));
            }
        }
    }

    private static void promise14Sentence15(Checks is) {
        int[] stamps = {3, MAX - 3, MAX - 1, MAX};
        for (DumpLevels x : near) {
            for (int d = 0; d < dumpsOf(x); d++) {
                x.restoreReset();
                chainOf(x, d).forEach(x::restoreApply);
                is.answers(x, restoreStamp(), stamps[d]);
            }
        }
    }

    private static void promise14Sentence16(Checks is) {
        for (DumpLevels x : near) {
            x.restoreReset();
            x.restoreApply(0);
            is.restored(x, 2, FILE, 1, 2, 0, 2);
            is.restored(x, 3, FREE, 0, 0, 0, 0);
            x.restoreApply(1);
            is.restored(x, 2, FILE, 1, 2, 9, MAX - 5);
            is.restored(x, 3, FILE, 0, 3, 0, MAX - 4);
            x.restoreApply(2);
            asAtTheLastDump(is, x);
        }
        near.get(3).restoreApply(3);
        asAtTheLastDump(is, near.get(3));
        near.get(2).restoreReset();
        near.get(2).restoreApply(3);
        asAtTheLastDump(is, near.get(2));
    }

    private static void asAtTheLastDump(Checks is, DumpLevels x) {
        is.restored(x, 0, DIR, 0, 0, 0, 0);
        is.restored(x, 1, DIR, 0, 1, 0, 1);
        is.restored(x, 2, FILE, 0, 20, 9, MAX - 5);
        is.restored(x, 3, FILE, 0, 3, 7, MAX - 2);
        is.restored(x, 4, FREE, 0, 0, 0, 0);
    }

    private static void promise14Sentence17(Checks is) {
        int[] matches = {0, 0, 1, 1};
        for (int k = 0; k < OBJECTS; k++) {
            DumpLevels x = near.get(k);
            x.restoreReset();
            chainOf(x, dumpsOf(x) - 1).forEach(x::restoreApply);
            is.answers(x, restoreMatches(), matches[k]);
        }
    }

    /** What is answered there is not promised, and not looked at. */
    private static void rule7NothingIsThrownPastTheLimit(Checks is) {
        for (DumpLevels x : near) {
            x.write(3, 1);
            is.due("later calls end", true, !Shown.laterOf(x, "none").isEmpty());
        }
    }
}
