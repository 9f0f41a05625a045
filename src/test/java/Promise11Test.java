import java.util.TreeMap;

/** A test for each sentence of promise 11: dumpEntry. */
public final class Promise11Test extends Sentences {
    public static void main(String[] args) {
        section("Promise 11");
        holds(1, "`dumpEntry(d, inode, what)` answers what dump `d` recorded for `inode`, selected by `what`:",
            Promise11Test::sentence1AnswersWhatWasRecorded);
        holds(2, "`FIELD_KIND`, `FIELD_PARENT`, `FIELD_NAME`: the map entry;", Promise11Test::sentence2MapEntry);
        holds(3, "`FIELD_CONTENT`, `FIELD_STAMP`: the recorded values (0 if not captured);",
            Promise11Test::sentence3ContentAndStamp);
        holds(4, "`FIELD_CAPTURED`: 1 or 0.", Promise11Test::sentence4Captured);
        holds(5, "It answers -1 if `d` is not a taken dump, `inode` is not in 0..N-1, or `what` is not in 0..5.",
            Promise11Test::sentence5DumpInodeOrWhatIsOutside);
        holds(6, "Nothing changes.", Promise11Test::sentence6NothingChanges);
        holds(7, "The recorded values never change after the dump is taken.", Promise11Test::sentence7NeverChange);
        end();
    }

    private static void sentence1AnswersWhatWasRecorded(Checks is) {
        // Every inode of every dump has a place of its own, up to the last of the greatest object.
        DumpLevels x = States.greatest();
        for (int i = 1; i < 16; i++) {
            x.create(0, i, FILE);
        }
        for (int d = 0; d < 8; d++) {
            for (int i = 1; i < 16; i++) {
                x.write(i, 100 * d + i);
                x.rename(i, 0, 16 + 16 * d + i);
            }
            x.dump(d);
        }
        for (int d = 0; d < 8; d++) {
            is.entry(x, d, 0, DIR, 0, 0, 0, 0, 0);
            for (int i = 1; i < 16; i++) {
                is.entry(x, d, i, FILE, 0, 16 + 16 * d + i, 100 * d + i, 15 + 16 * d + i, 1);
            }
        }
    }

    private static void sentence2MapEntry(Checks is) {
        DumpLevels x = States.busy();
        x.rename(2, 3, 255);
        x.remove(4);
        x.dump(9);
        x.create(0, 40, DIR);
        for (int d = 0; d < 2; d++) {
            mapIs(is, x, d, 0, DIR, 0, 0);
            mapIs(is, x, d, 1, DIR, 0, 10);
            mapIs(is, x, d, 2, FILE, 1, 11);
            mapIs(is, x, d, 3, DIR, 1, 12);
            mapIs(is, x, d, 4, FILE, 0, 13);
            mapIs(is, x, d, 5, FREE, 0, 0);
        }
        mapIs(is, x, 2, 2, FILE, 3, 255);
        mapIs(is, x, 2, 4, FREE, 0, 0);
    }

    private static void mapIs(Checks is, DumpLevels x, int d, int inode, int kind, int parent, int name) {
        is.answers(x, dumpEntry(d, inode, 0), kind);
        is.answers(x, dumpEntry(d, inode, 1), parent);
        is.answers(x, dumpEntry(d, inode, 2), name);
    }

    private static void sentence3ContentAndStamp(Checks is) {
        DumpLevels x = States.busy();
        int[][] first = {{0, 0}, {0, 1}, {77, 5}, {0, 3}, {0, 4}, {0, 0}};
        int[][] second = {{0, 0}, {0, 0}, {0, 0}, {0, 0}, {-8, 7}, {0, 0}};
        for (int i = 0; i < 6; i++) {
            is.answers(x, dumpEntry(0, i, 3), first[i][0]);
            is.answers(x, dumpEntry(0, i, 4), first[i][1]);
            is.answers(x, dumpEntry(1, i, 3), second[i][0]);
            is.answers(x, dumpEntry(1, i, 4), second[i][1]);
        }
        x.write(4, MIN);
        x.dump(4);
        is.answers(x, dumpEntry(2, 4, 3), MIN);
        is.answers(x, dumpEntry(2, 4, 4), 9);
    }

    private static void sentence4Captured(Checks is) {
        DumpLevels x = States.busy();
        int[] first = {0, 1, 1, 1, 1, 0};
        int[] second = {0, 0, 0, 0, 1, 0};
        for (int i = 0; i < 6; i++) {
            is.answers(x, dumpEntry(0, i, 5), first[i]);
            is.answers(x, dumpEntry(1, i, 5), second[i]);
        }
    }

    private static void sentence5DumpInodeOrWhatIsOutside(Checks is) {
        for (int n = 4; n <= 16; n++) {
            DumpLevels x = new DumpLevels(n, 3);
            for (int i = 1; i < n; i++) {
                x.create(0, i, FILE);
            }
            for (int taken = 0; taken <= 3; taken++) {
                entriesEnd(is, x, n, taken);
                x.dump(taken);
            }
        }
        DumpLevels crowded = States.crowded();
        is.answers(crowded, dumpEntry(7, 15, STAMP), 30);
        is.answers(crowded, dumpEntry(7, 16, STAMP), -1);
        is.answers(crowded, dumpEntry(8, 15, STAMP), -1);
        is.answers(crowded, dumpEntry(7, 15, 6), -1);
        is.answers(crowded, dumpEntry(0, -1, KIND), -1);
        is.answers(crowded, dumpEntry(1, -1, KIND), -1);
    }

    private static void entriesEnd(Checks is, DumpLevels x, int n, int taken) {
        for (int what = 0; what <= 5; what++) {
            for (int d = taken; d < 10; d++) {
                is.answers(x, dumpEntry(d, n - 1, what), -1);
            }
            for (int d : outside(0, 8)) {
                is.answers(x, dumpEntry(d, n - 1, what), -1);
            }
            for (int d = 0; d < taken; d++) {
                for (int inode : outside(0, n - 1)) {
                    is.answers(x, dumpEntry(d, inode, what), -1);
                }
                is.due("dumpEntry(" + d + ", N-1, " + what + ") is an answer", true,
                    x.dumpEntry(d, n - 1, what) != -1);
            }
        }
        for (int d = 0; d < taken; d++) {
            for (int what : outside(0, 5)) {
                is.answers(x, dumpEntry(d, 0, what), -1);
                is.answers(x, dumpEntry(d, n - 1, what), -1);
            }
        }
    }

    private static void sentence6NothingChanges(Checks is) {
        for (int what = 0; what <= 5; what++) {
            is.changesNothing(States::busy, dumpEntry(0, 2, what), new int[] {FILE, 1, 11, 77, 5, 1}[what]);
            is.changesNothing(States::busy, dumpEntry(1, 2, what), new int[] {FILE, 1, 11, 0, 0, 0}[what]);
            is.changesNothing(States::busy, dumpEntry(1, 5, what), 0);
            is.changesNothing(States::busy, dumpEntry(2, 2, what), -1);
            is.changesNothing(States::crowded, dumpEntry(7, 15, what), new int[] {FILE, 0, 255, 507, 30, 1}[what]);
        }
        States.all().values().forEach(state -> {
            is.changesNothing(state, dumpEntry(-1, 0, KIND), -1);
            is.changesNothing(state, dumpEntry(8, 0, KIND), -1);
            is.changesNothing(state, dumpEntry(0, -1, KIND), -1);
            is.changesNothing(state, dumpEntry(0, 16, KIND), -1);
            is.changesNothing(state, dumpEntry(0, 0, -1), -1);
            is.changesNothing(state, dumpEntry(0, 0, 6), -1);
            is.changesNothing(state, dumpEntry(MIN, MAX, MIN), -1);
        });
    }

    private static void sentence7NeverChange(Checks is) {
        MixedRun.all((n, limit) -> {
            TreeMap<Integer, int[][]> atFirst = new TreeMap<>();
            return (x, step) -> {
                if (step.is("dump") && step.answer() >= 0) {
                    atFirst.put(step.answer(), entriesOf(x, step.answer(), n));
                }
                atFirst.forEach((d, entries) -> {
                    for (int i = 0; i < n; i++) {
                        is.entry(x, d, i, entries[i]);
                    }
                });
            };
        });
    }

    private static int[][] entriesOf(DumpLevels x, int d, int n) {
        int[][] entries = new int[n][6];
        for (int i = 0; i < n; i++) {
            for (int what = 0; what < 6; what++) {
                entries[i][what] = x.dumpEntry(d, i, what);
            }
        }
        return entries;
    }
}
