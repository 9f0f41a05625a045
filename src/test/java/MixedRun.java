/**
 * Long runs of mixed calls over objects of every size, good and refused ones, for the sentences that hold
 * in every state. The calls come from a fixed arithmetic sequence, so that each run is the same every time.
 */
final class MixedRun extends Calls {
    private static final int RUNS = 150;
    private static final int CALLS = 150;

    /** A call that was made, its answer, and what clock and restoreStamp showed before it. */
    record Step(String name, int[] arguments, int answer, int clockBefore, int stampBefore) {
        boolean is(String wanted) {
            return name.equals(wanted);
        }

        int argument(int k) {
            return arguments[k];
        }
    }

    /** What a test looks at during one run. */
    interface Look {
        void after(DumpLevels x, Step step);

        default void end(DumpLevels x) {
        }
    }

    /** Makes the look of a run whose object has so many inodes and dumps. */
    interface Looks {
        Look of(int inodes, int dumps);
    }

    private final DumpLevels x;
    private final int inodes;
    private final int dumps;
    private final Look look;
    private long seed;

    private MixedRun(int run, Looks looks) {
        seed = 104729L * run + 3;
        inodes = 4 + pick(13);
        dumps = 2 + pick(7);
        x = new DumpLevels(inodes, dumps);
        look = looks.of(inodes, dumps);
    }

    static void all(Looks looks) {
        for (int run = 0; run < RUNS; run++) {
            MixedRun mixed = new MixedRun(run, looks);
            for (int k = 0; k < CALLS; k++) {
                mixed.step();
            }
            mixed.look.end(mixed.x);
        }
    }

    private int pick(int bound) {
        seed = seed * 6364136223846793005L + 1442695040888963407L;
        return (int) ((seed >>> 33) % bound);
    }

    private int mostly(int usual) {
        return pick(15) != 0 ? usual : Checks.WILD[pick(Checks.WILD.length)];
    }

    private int inode() {
        return mostly(pick(inodes + 2) - 1);
    }

    private int name() {
        return mostly(pick(8) == 0 ? 250 + pick(8) : pick(6));
    }

    private void step() {
        switch (pick(19)) {
            case 0, 1, 2, 3, 4 -> make("create", inode(), name(), mostly(pick(4)));
            case 5, 6, 7 -> make("write", inode(), mostly(pick(1000) - 500));
            case 8, 9 -> make("remove", inode());
            case 10, 11, 12 -> make("rename", inode(), inode(), name());
            case 13 -> make("dump", mostly(pick(11)));
            case 14, 15, 16 -> make("restoreApply", mostly(pick(dumps + 1)));
            case 17 -> make(pick(3) == 0 ? "restoreReset" : "restoreMatches");
            default -> make("lookup", inode(), name());
        }
    }

    private void make(String name, int... a) {
        Call call = switch (name) {
            case "create" -> create(a[0], a[1], a[2]);
            case "write" -> write(a[0], a[1]);
            case "remove" -> remove(a[0]);
            case "rename" -> rename(a[0], a[1], a[2]);
            case "dump" -> dump(a[0]);
            case "restoreApply" -> restoreApply(a[0]);
            case "restoreReset" -> restoreReset();
            case "restoreMatches" -> restoreMatches();
            default -> lookup(a[0], a[1]);
        };
        int clockBefore = x.getClock();
        int stampBefore = x.restoreStamp();
        int answer = call.on(x);
        look.after(x, new Step(name, a, answer, clockBefore, stampBefore));
    }
}
