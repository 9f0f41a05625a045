/** A test for each sentence of the section 'Terms'. */
public final class TermsTest extends Sentences {
    public static void main(String[] args) {
        inodes();
        clock();
        dumps();
        restore();
        chain();
        end();
    }

    // Inodes

    private static void inodes() {
        section("Terms, Inodes");
        holds(1, "Each inode, in the live file system and in the restored file system alike, has five int fields: "
            + "KIND (FREE, FILE or DIR), PARENT (an inode number), NAME (1..255), CONTENT and STAMP.",
            TermsTest::inodes1FiveFieldsLiveAndRestored);
        holds(2, "A free inode always has KIND=FREE and PARENT=NAME=CONTENT=STAMP=0.",
            TermsTest::inodes2FreeInodeIsAllZero);
        holds(3, "Inode 0 is the root.", TermsTest::inodes3InodeZeroIsTheRoot);
        holds(4, "It is always DIR with PARENT=0, NAME=0, CONTENT=0, STAMP=0, and no call ever changes the root.",
            TermsTest::inodes4NoCallChangesTheRoot);
        holds(5, "A directory's CONTENT is always 0.", TermsTest::inodes5DirectoryContentIsZero);
        holds(6, "'In use' means KIND != FREE.", TermsTest::inodes6InUseIsNotFree);
        holds(7, "The entries of directory p are the in-use inodes i != 0 with PARENT == p.",
            TermsTest::inodes7EntriesOfADirectory);
        holds(8, "Two in-use inodes never share both PARENT and NAME.", TermsTest::inodes8NoTwoShareParentAndName);
    }

    private static void inodes1FiveFieldsLiveAndRestored(Checks is) {
        DumpLevels x = States.greatest();
        x.create(0, 1, FILE);
        for (int i = 2; i < 15; i++) {
            x.create(0, i, DIR);
        }
        x.create(14, 255, FILE);
        x.write(1, MAX);
        x.write(15, MIN);
        x.dump(0);
        x.restoreApply(0);
        is.live(x, 1, FILE, 0, 1, MAX, 16);
        is.restored(x, 1, FILE, 0, 1, MAX, 16);
        is.live(x, 14, DIR, 0, 14, 0, 14);
        is.restored(x, 14, DIR, 0, 14, 0, 14);
        is.live(x, 15, FILE, 14, 255, MIN, 17);
        is.restored(x, 15, FILE, 14, 255, MIN, 17);
        MixedRun.all((n, d) -> (y, step) -> {
            for (int i = 1; i < n; i++) {
                fieldsAreInRange(is, n, step, y.inodeInfo(i, KIND), y.inodeInfo(i, PARENT), y.inodeInfo(i, NAME));
                fieldsAreInRange(is, n, step, y.restoredInfo(i, KIND), y.restoredInfo(i, PARENT),
                    y.restoredInfo(i, NAME));
            }
        });
    }

    private static void fieldsAreInRange(Checks is, int n, MixedRun.Step step, int kind, int parent, int name) {
        int leastName = kind == FREE ? 0 : 1;
        is.due("KIND, PARENT and NAME in range after " + step.name(), true, kind >= FREE && kind <= DIR
            && parent >= 0 && parent < n && name >= leastName && name <= 255);
    }

    private static void inodes2FreeInodeIsAllZero(Checks is) {
        DumpLevels x = States.busy();
        x.restoreApply(1);
        x.remove(2);
        x.remove(4);
        x.dump(9);
        x.restoreApply(2);
        for (int i : new int[] {2, 4, 5}) {
            is.live(x, i, FREE, 0, 0, 0, 0);
            is.restored(x, i, FREE, 0, 0, 0, 0);
        }
        MixedRun.all((n, d) -> (y, step) -> {
            for (int i = 0; i < n; i++) {
                if (y.inodeInfo(i, KIND) == FREE) {
                    is.live(y, i, FREE, 0, 0, 0, 0);
                }
                if (y.restoredInfo(i, KIND) == FREE) {
                    is.restored(y, i, FREE, 0, 0, 0, 0);
                }
            }
        });
    }

    private static void inodes3InodeZeroIsTheRoot(Checks is) {
        DumpLevels x = States.least();
        is.live(x, 0, DIR, 0, 0, 0, 0);
        is.answers(x, create(0, 1, DIR), 1);
        is.answers(x, create(1, 2, FILE), 2);
        is.answers(x, rename(2, 0, 3), OK);
        is.live(x, 2, FILE, 0, 3, 0, 2);
    }

    private static void inodes4NoCallChangesTheRoot(Checks is) {
        for (Call call : new Call[] {write(0, 5), remove(0), rename(0, 0, 1), rename(0, 1, 1), create(0, 20, DIR),
            rename(2, 0, 21), write(4, 6), dump(0), restoreApply(1), restoreReset(), remove(2)}) {
            DumpLevels x = States.busy();
            call.on(x);
            rootIsWhole(is, x);
        }
        MixedRun.all((n, d) -> (y, step) -> rootIsWhole(is, y));
    }

    private static void rootIsWhole(Checks is, DumpLevels x) {
        is.live(x, 0, DIR, 0, 0, 0, 0);
        is.restored(x, 0, DIR, 0, 0, 0, 0);
        for (int d = 0; d < dumpsOf(x); d++) {
            is.entry(x, d, 0, DIR, 0, 0, 0, 0, 0);
        }
    }

    private static void inodes5DirectoryContentIsZero(Checks is) {
        DumpLevels x = States.busy();
        x.write(1, 5);
        is.live(x, 1, DIR, 0, 10, 0, 1);
        x.restoreApply(1);
        x.remove(4);
        is.answers(x, create(0, 20, DIR), 4);
        is.live(x, 4, DIR, 0, 20, 0, 9);
        x.dump(4);
        is.answers(x, restoreApply(2), OK);
        is.restored(x, 4, DIR, 0, 20, 0, 9);
        MixedRun.all((n, d) -> (y, step) -> {
            for (int i = 0; i < n; i++) {
                if (y.inodeInfo(i, KIND) == DIR) {
                    is.due("CONTENT of a live directory", 0, y.inodeInfo(i, CONTENT));
                }
                if (y.restoredInfo(i, KIND) == DIR) {
                    is.due("CONTENT of a restored directory", 0, y.restoredInfo(i, CONTENT));
                }
            }
        });
    }

    private static void inodes6InUseIsNotFree(Checks is) {
        for (int kind : new int[] {FILE, DIR}) {
            DumpLevels x = States.least();
            is.answers(x, create(0, 1, kind), 1);
            is.answers(x, create(0, 1, kind), ERR_EXISTS);
            is.answers(x, create(0, 2, kind), 2);
            is.answers(x, lookup(0, 1), 1);
            is.answers(x, dump(0), 0);
            is.entry(x, 0, 1, kind, 0, 1, 0, 1, 1);
            is.entry(x, 0, 3, FREE, 0, 0, 0, 0, 0);
            is.answers(x, rename(1, 0, 3), OK);
            is.answers(x, rename(3, 0, 4), ERR_INODE);
            is.answers(x, remove(1), OK);
            is.answers(x, lookup(0, 3), -1);
            is.answers(x, remove(1), ERR_INODE);
            is.answers(x, create(0, 3, kind), 1);
        }
    }

    private static void inodes7EntriesOfADirectory(Checks is) {
        DumpLevels x = States.busy();
        is.answers(x, lookup(1, 11), 2);
        is.answers(x, lookup(1, 12), 3);
        is.answers(x, lookup(0, 10), 1);
        is.answers(x, lookup(0, 11), -1);
        is.answers(x, lookup(0, 12), -1);
        is.answers(x, lookup(0, 0), -1);
        is.answers(x, create(0, 11, FILE), 5);
        is.answers(x, remove(1), ERR_NOT_EMPTY);
        is.answers(x, remove(3), OK);
        is.answers(x, remove(1), ERR_NOT_EMPTY);
        is.answers(x, remove(2), OK);
        is.answers(x, remove(1), OK);
        DumpLevels last = States.least();
        last.create(0, 1, DIR);
        last.create(0, 2, DIR);
        last.create(2, 3, FILE);
        is.answers(last, remove(2), ERR_NOT_EMPTY);
        is.answers(last, rename(3, 1, 3), OK);
        is.answers(last, remove(2), OK);
        is.answers(last, remove(1), ERR_NOT_EMPTY);
    }

    private static void inodes8NoTwoShareParentAndName(Checks is) {
        DumpLevels x = States.busy();
        is.answers(x, create(1, 11, DIR), ERR_EXISTS);
        is.answers(x, rename(3, 1, 11), ERR_EXISTS);
        is.answers(x, create(3, 11, FILE), 5);
        MixedRun.all((n, d) -> (y, step) -> {
            for (int i = 1; i < n; i++) {
                for (int j = 1; j < i; j++) {
                    is.due("inodes " + j + " and " + i + " share PARENT and NAME", false,
                        y.inodeInfo(i, KIND) != FREE && y.inodeInfo(j, KIND) != FREE
                        && y.inodeInfo(i, PARENT) == y.inodeInfo(j, PARENT)
                        && y.inodeInfo(i, NAME) == y.inodeInfo(j, NAME));
                }
            }
        });
    }

    // Clock

    private static void clock() {
        section("Terms, Clock");
        holds(1, "The clock starts at 0.", TermsTest::clock1StartsAtZero);
        holds(2, "Only a successful create, write or dump increases it, by exactly 1 each time.",
            TermsTest::clock2OnlyCreateWriteAndDumpIncreaseIt);
        holds(3, "The STAMP of a created or written inode is set to the clock value after that increase.",
            TermsTest::clock3StampIsTheIncreasedClock);
        holds(4, "remove and rename never change the clock.", TermsTest::clock4RemoveAndRenameKeepIt);
        holds(5, "rename changes no STAMP, and remove changes only the STAMP of the removed inode, which becomes 0.",
            TermsTest::clock5StampsAfterRenameAndRemove);
    }

    private static void clock1StartsAtZero(Checks is) {
        for (int size : new int[] {MIN, 0, 4, 8, 16, MAX}) {
            is.answers(new DumpLevels(size, size), getClock(), 0);
        }
    }

    private static void clock2OnlyCreateWriteAndDumpIncreaseIt(Checks is) {
        MixedRun.all((n, d) -> (x, step) -> {
            boolean increases = step.is("create") && step.answer() > 0
                || step.is("write") && step.answer() == OK
                || step.is("dump") && step.answer() >= 0;
            int due = step.clockBefore() + (increases ? 1 : 0);
            is.due("getClock() after " + step.name() + " answered " + step.answer(), due, x.getClock());
        });
        DumpLevels x = States.busy();
        Shown.by(x);
        is.answers(x, getClock(), 8);
    }

    private static void clock3StampIsTheIncreasedClock(Checks is) {
        DumpLevels first = States.least();
        first.create(0, 1, FILE);
        is.answers(first, inodeInfo(1, STAMP), 1);
        first.write(1, 0);
        is.answers(first, inodeInfo(1, STAMP), 2);
        MixedRun.all((n, d) -> (x, step) -> {
            int inode = step.is("create") ? step.answer() : step.is("write") && step.answer() == OK
                ? step.argument(0) : -1;
            if (inode > 0) {
                is.due("STAMP after " + step.name(), step.clockBefore() + 1, x.inodeInfo(inode, STAMP));
            }
        });
    }

    private static void clock4RemoveAndRenameKeepIt(Checks is) {
        for (Call call : new Call[] {rename(2, 0, 20), rename(2, 1, 11), rename(0, 1, 1), remove(2), remove(3),
            remove(4), remove(1), remove(0), remove(5)}) {
            DumpLevels x = States.busy();
            call.on(x);
            is.answers(x, getClock(), 8);
        }
        MixedRun.all((n, d) -> (x, step) -> {
            if (step.is("remove") || step.is("rename")) {
                is.due("getClock() after " + step.name(), step.clockBefore(), x.getClock());
            }
        });
    }

    private static void clock5StampsAfterRenameAndRemove(Checks is) {
        DumpLevels x = States.busy();
        is.answers(x, rename(2, 3, 200), OK);
        is.answers(x, rename(3, 0, 201), OK);
        stampsAre(is, x, 0, 1, 5, 3, 7, 0);
        is.answers(x, remove(2), OK);
        stampsAre(is, x, 0, 1, 0, 3, 7, 0);
        is.answers(x, remove(1), OK);
        stampsAre(is, x, 0, 0, 0, 3, 7, 0);
    }

    private static void stampsAre(Checks is, DumpLevels x, int... want) {
        for (int i = 0; i < want.length; i++) {
            is.answers(x, inodeInfo(i, STAMP), want[i]);
        }
    }

    // Dumps

    private static void dumps() {
        section("Terms, Dumps");
        holds(1, "Dumps are numbered 0, 1, 2, .. in the order they are taken, up to D of them.",
            TermsTest::dumps1NumberedInOrderUpToD);
        holds(2, "A dump d is 'taken' when d is in 0..(number of dumps taken so far)-1.",
            TermsTest::dumps2TakenBelowTheNumberOfDumps);
        holds(3, "dumpdates[L] for L in 0..9 starts at 0 and holds the stamp of the latest dump of level L.",
            TermsTest::dumps3DumpdatesHoldTheLatestStamp);
        holds(4, "A dump of level L works in this order:", TermsTest::dumps4WorksInThisOrder);
        holds(5, "the clock increases by 1, and the dump's STAMP is the new clock value;",
            TermsTest::dumps5StampIsTheIncreasedClock);
        holds(6, "its BASE is the greatest dumpdates[l] over l < L (0 if L == 0);",
            TermsTest::dumps6BaseIsTheGreatestLowerDate);
        holds(7, "for every inode i in 0..N-1 it records the map entry KIND, PARENT and NAME of i.",
            TermsTest::dumps7MapOfEveryInode);
        holds(8, "i is CAPTURED iff i != 0, i is in use, and STAMP(i) > BASE.",
            TermsTest::dumps8CapturedIffInUseAndNewer);
        holds(9, "For a captured inode it also records CONTENT and STAMP; otherwise it records 0 for both;",
            TermsTest::dumps9ContentAndStampOrZero);
        holds(10, "dumpdates[L] becomes the dump's STAMP.", TermsTest::dumps10DumpdateBecomesTheStamp);
    }

    private static void dumps1NumberedInOrderUpToD(Checks is) {
        for (int limit = 2; limit <= 8; limit++) {
            DumpLevels x = new DumpLevels(4, limit);
            for (int d = 0; d < limit; d++) {
                is.answers(x, dump(9 - d), d);
            }
            is.answers(x, dump(0), ERR_FULL);
            for (int d = 0; d < limit; d++) {
                is.info(x, d, 9 - d, d + 1, 0, 0);
            }
            is.answers(x, dumpInfo(limit, DUMP_LEVEL), -1);
        }
    }

    private static void dumps2TakenBelowTheNumberOfDumps(Checks is) {
        DumpLevels x = States.greatest();
        for (int taken = 0; taken <= 8; taken++) {
            for (int d = -1; d <= 9; d++) {
                boolean isTaken = d >= 0 && d < taken;
                is.due("dumpInfo(" + d + ", 0) with " + taken + " taken", isTaken, x.dumpInfo(d, DUMP_LEVEL) != -1);
                is.due("dumpEntry(" + d + ", 0, 0) with " + taken + " taken", isTaken, x.dumpEntry(d, 0, KIND) != -1);
                is.due("restoreApply(" + d + ") with " + taken + " taken", isTaken,
                    x.restoreApply(d) != ERR_NO_DUMP);
            }
            x.dump(taken);
        }
    }

    private static void dumps3DumpdatesHoldTheLatestStamp(Checks is) {
        DumpLevels x = States.greatest();
        for (int level = 0; level < 10; level++) {
            is.answers(x, dumpDate(level), 0);
        }
        x.dump(0);
        x.dump(9);
        x.dump(5);
        x.dump(9);
        x.dump(0);
        x.dump(5);
        x.dump(5);
        int[] want = {5, 0, 0, 0, 0, 7, 0, 0, 0, 4};
        for (int level = 0; level < 10; level++) {
            is.answers(x, dumpDate(level), want[level]);
        }
    }

    private static void dumps4WorksInThisOrder(Checks is) {
        for (int level = 0; level < 10; level++) {
            DumpLevels x = new DumpLevels(4, 3);
            x.create(0, 1, FILE);
            // With its own stamp among the dates before its base is taken, a dump would capture nothing.
            is.answers(x, dump(level), 0);
            is.info(x, 0, level, 2, 0, 1);
            is.entry(x, 0, 1, FILE, 0, 1, 0, 1, 1);
            is.answers(x, dump(level), 1);
            is.info(x, 1, level, 3, 0, 1);
            is.entry(x, 1, 1, FILE, 0, 1, 0, 1, 1);
            // Had the clock not gone up first, this stamp would be no greater than the dump's.
            x.write(1, 8);
            is.answers(x, inodeInfo(1, STAMP), 4);
            is.answers(x, dump(9), 2);
            is.info(x, 2, 9, 5, level < 9 ? 3 : 0, 1);
            is.answers(x, dumpDate(9), 5);
        }
    }

    private static void dumps5StampIsTheIncreasedClock(Checks is) {
        DumpLevels empty = States.least();
        is.answers(empty, dump(0), 0);
        is.answers(empty, getClock(), 1);
        is.answers(empty, dumpInfo(0, DUMP_STAMP), 1);
        MixedRun.all((n, d) -> (x, step) -> {
            if (step.is("dump") && step.answer() >= 0) {
                is.due("getClock() after a dump", step.clockBefore() + 1, x.getClock());
                is.due("DUMP_STAMP", step.clockBefore() + 1, x.dumpInfo(step.answer(), DUMP_STAMP));
            }
        });
    }

    private static void dumps6BaseIsTheGreatestLowerDate(Checks is) {
        for (int level = 0; level < 10; level++) {
            for (int other = 0; other < 10; other++) {
                DumpLevels x = States.least();
                x.dump(other);
                x.dump(level);
                is.answers(x, dumpInfo(1, DUMP_BASE), other < level ? 1 : 0);
            }
        }
        // The greatest date is not that of the nearest level, nor of the lowest, nor of the latest dump.
        int[] levels = {7, 0, 4, 2, 9, 8, 1, 0};
        int[] bases = {0, 0, 2, 2, 4, 4, 2, 0};
        DumpLevels x = States.greatest();
        for (int d = 0; d < 8; d++) {
            is.answers(x, dump(levels[d]), d);
            is.answers(x, dumpInfo(d, DUMP_BASE), bases[d]);
        }
    }

    private static void dumps7MapOfEveryInode(Checks is) {
        for (int n = 4; n <= 16; n++) {
            DumpLevels x = new DumpLevels(n, 2);
            x.create(0, 1, DIR);
            for (int i = 2; i < n; i++) {
                x.create(1, i, FILE);
            }
            x.remove(2);
            x.dump(0);
            x.dump(1);
            for (int d = 0; d < 2; d++) {
                mapIs(is, x, d, 0, DIR, 0, 0);
                mapIs(is, x, d, 1, DIR, 0, 1);
                mapIs(is, x, d, 2, FREE, 0, 0);
                for (int i = 3; i < n; i++) {
                    mapIs(is, x, d, i, FILE, 1, i);
                }
            }
        }
    }

    private static void mapIs(Checks is, DumpLevels x, int d, int inode, int kind, int parent, int name) {
        is.answers(x, dumpEntry(d, inode, KIND), kind);
        is.answers(x, dumpEntry(d, inode, PARENT), parent);
        is.answers(x, dumpEntry(d, inode, NAME), name);
    }

    private static void dumps8CapturedIffInUseAndNewer(Checks is) {
        DumpLevels x = new DumpLevels(5, 4);
        x.create(0, 1, FILE);
        x.create(0, 2, FILE);
        x.dump(0);
        x.create(0, 3, FILE);
        x.dump(1);
        // Inode 2 has the stamp right below the base 3, inode 3 the one right above it.
        is.info(x, 1, 1, 5, 3, 1);
        capturedAre(is, x, 0, 0, 1, 1, 0, 0);
        capturedAre(is, x, 1, 0, 0, 0, 1, 0);
        x.remove(3);
        x.write(1, 9);
        x.dump(0);
        capturedAre(is, x, 2, 0, 1, 1, 0, 0);
        x.dump(2);
        capturedAre(is, x, 3, 0, 0, 0, 0, 0);
        MixedRun.all((n, d) -> (y, step) -> {
            for (int i = 0; step.is("dump") && step.answer() >= 0 && i < n; i++) {
                boolean captured = i != 0 && y.inodeInfo(i, KIND) != FREE
                    && y.inodeInfo(i, STAMP) > y.dumpInfo(step.answer(), DUMP_BASE);
                is.answers(y, dumpEntry(step.answer(), i, CAPTURED), captured ? 1 : 0);
            }
        });
    }

    private static void capturedAre(Checks is, DumpLevels x, int d, int... want) {
        for (int i = 0; i < want.length; i++) {
            is.answers(x, dumpEntry(d, i, CAPTURED), want[i]);
        }
    }

    private static void dumps9ContentAndStampOrZero(Checks is) {
        DumpLevels x = States.busy();
        is.entry(x, 0, 1, DIR, 0, 10, 0, 1, 1);
        is.entry(x, 0, 2, FILE, 1, 11, 77, 5, 1);
        is.entry(x, 0, 4, FILE, 0, 13, 0, 4, 1);
        is.entry(x, 0, 5, FREE, 0, 0, 0, 0, 0);
        is.entry(x, 1, 1, DIR, 0, 10, 0, 0, 0);
        is.entry(x, 1, 2, FILE, 1, 11, 0, 0, 0);
        is.entry(x, 1, 4, FILE, 0, 13, -8, 7, 1);
        x.write(2, MIN);
        x.write(4, MAX);
        x.dump(9);
        is.entry(x, 2, 2, FILE, 1, 11, MIN, 9, 1);
        is.entry(x, 2, 4, FILE, 0, 13, MAX, 10, 1);
    }

    private static void dumps10DumpdateBecomesTheStamp(Checks is) {
        for (int level = 0; level < 10; level++) {
            DumpLevels x = States.busy();
            is.answers(x, dump(level), 2);
            is.answers(x, dumpDate(level), 9);
            is.answers(x, dump(level), 3);
            is.answers(x, dumpDate(level), 10);
            is.answers(x, dumpInfo(3, DUMP_STAMP), 10);
        }
    }

    // Restore

    private static void restore() {
        section("Terms, Restore");
        holds(1, "The object also holds a restored file system (same five fields per inode) and a value restoreStamp.",
            TermsTest::restore1HeldBesideTheLiveSide);
        holds(2, "Initially, and after restoreReset, the restored file system has only the root in use, every other "
            + "inode free, and restoreStamp = 0.", TermsTest::restore2RootOnlyAtFirstAndAfterReset);
    }

    private static void restore1HeldBesideTheLiveSide(Checks is) {
        DumpLevels x = States.full();
        x.write(2, 1);
        x.rename(4, 1, 99);
        x.remove(5);
        is.restored(x, 2, FILE, 1, 11, 77, 6);
        is.restored(x, 4, FILE, 0, 13, -8, 8);
        is.restored(x, 5, FILE, 3, 14, 0, 5);
        is.answers(x, restoreStamp(), 9);
        x.restoreReset();
        is.live(x, 2, FILE, 1, 11, 1, 10);
        is.live(x, 4, FILE, 1, 99, -8, 8);
    }

    private static void restore2RootOnlyAtFirstAndAfterReset(Checks is) {
        for (int n = 4; n <= 16; n++) {
            DumpLevels x = new DumpLevels(n, 2);
            rootOnly(is, x, n);
            for (int i = 1; i < n; i++) {
                x.create(0, i, FILE);
                x.write(i, i);
            }
            x.dump(0);
            is.answers(x, restoreApply(0), OK);
            x.restoreReset();
            rootOnly(is, x, n);
        }
    }

    private static void rootOnly(Checks is, DumpLevels x, int n) {
        is.restored(x, 0, DIR, 0, 0, 0, 0);
        for (int i = 1; i < n; i++) {
            is.restored(x, i, FREE, 0, 0, 0, 0);
        }
        is.answers(x, restoreStamp(), 0);
    }

    // Chain

    private static void chain() {
        section("Terms, Chain");
        holds(1, "For a taken dump d, the chain of d is the sequence of dumps d1, .., dk = d with BASE(d1) = 0 and "
            + "BASE(d(j+1)) = STAMP(dj) for each j.", TermsTest::chain1FromBaseZeroToTheDump);
        holds(2, "As long as the clock has not passed Integer.MAX_VALUE, every nonzero dumpdates value is the stamp "
            + "of exactly one dump, so each dj exists and is unique.", TermsTest::chain2EachDateIsOneDumpsStamp);
    }

    private static void chain1FromBaseZeroToTheDump(Checks is) {
        DumpLevels x = States.greatest();
        for (int level : new int[] {4, 0, 5, 3, 4, 9, 0, 1}) {
            x.dump(level);
        }
        String[] want = {"[0]", "[1]", "[1, 2]", "[1, 3]", "[1, 3, 4]", "[1, 3, 4, 5]", "[6]", "[6, 7]"};
        for (int d = 0; d < 8; d++) {
            String got = chainOf(x, d).toString();
            is.due("the chain of dump " + d + " is " + got + ", due is " + want[d], true, got.equals(want[d]));
        }
        DumpLevels longest = States.greatest();
        for (int d = 0; d < 8; d++) {
            longest.dump(d + 2);
        }
        is.due("length of the longest chain", 8, chainOf(longest, 7).size());
        is.due("length of the shortest chain", 1, chainOf(longest, 0).size());
    }

    private static void chain2EachDateIsOneDumpsStamp(Checks is) {
        MixedRun.all((n, limit) -> (x, step) -> {
            for (int level = 0; level < 10; level++) {
                int date = x.dumpDate(level);
                int holders = 0;
                for (int d = 0; d < dumpsOf(x); d++) {
                    holders += x.dumpInfo(d, DUMP_STAMP) == date ? 1 : 0;
                }
                is.due("dumps with the stamp dumpDate(" + level + ")", date == 0 ? 0 : 1, holders);
            }
        });
    }
}
