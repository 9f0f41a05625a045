import java.util.ArrayList;
import java.util.List;
import java.util.function.Supplier;

/** Compares answers with those that are due, and counts the wrong ones. */
final class Checks {
    /** Values that are out of every range the document names, or at the ends of int. */
    static final int[] WILD = {Integer.MIN_VALUE, Integer.MIN_VALUE + 1, -256, -17, -1, 256, 257,
        Integer.MAX_VALUE - 1, Integer.MAX_VALUE};

    private int wrong;
    private int made;

    int wrong() {
        return wrong;
    }

    /** How many answers were looked at. */
    int made() {
        return made;
    }

    void due(String call, long want, long got) {
        made++;
        if (got != want) {
            wrong++;
            System.out.println(call + " answered " + got + ", due is " + want);
        }
    }

    void due(String call, boolean want, boolean got) {
        due(call, want ? 1 : 0, got ? 1 : 0);
    }

    /** Everything that the object shows, one line for each value. */
    static List<String> stateOf(DumpLevels x) {
        List<String> state = liveOf(x);
        state.add("clock " + x.getClock());
        state.addAll(dumpsOf(x));
        for (int level = 0; level < 10; level++) {
            state.add("dumpDate " + level + " is " + x.dumpDate(level));
        }
        state.addAll(restoredOf(x));
        return state;
    }

    static List<String> liveOf(DumpLevels x) {
        List<String> state = new ArrayList<>();
        for (int i = 0; i < 17; i++) {
            for (int what = 0; what < 5; what++) {
                state.add("inode " + i + " field " + what + " is " + x.inodeInfo(i, what));
            }
        }
        return state;
    }

    static List<String> dumpsOf(DumpLevels x) {
        List<String> state = new ArrayList<>();
        for (int d = 0; d < 9; d++) {
            for (int what = 0; what < 4; what++) {
                state.add("dump " + d + " info " + what + " is " + x.dumpInfo(d, what));
            }
            for (int i = 0; i < 17; i++) {
                for (int what = 0; what < 6; what++) {
                    state.add("dump " + d + " inode " + i + " field " + what + " is " + x.dumpEntry(d, i, what));
                }
            }
        }
        return state;
    }

    static List<String> restoredOf(DumpLevels x) {
        List<String> state = new ArrayList<>();
        for (int i = 0; i < 17; i++) {
            for (int what = 0; what < 5; what++) {
                state.add("restored " + i + " field " + what + " is " + x.restoredInfo(i, what));
            }
        }
        state.add("restoreStamp " + x.restoreStamp());
        return state;
    }

    void same(String call, List<String> before, List<String> after) {
        due(call + ": number of values", before.size(), after.size());
        for (int k = 0; k < before.size() && k < after.size(); k++) {
            made++;
            if (!before.get(k).equals(after.get(k))) {
                wrong++;
                System.out.println(call + ": was " + before.get(k) + ", became " + after.get(k));
            }
        }
    }

    /** Checks that nothing but the lines that start with one of the given words differs. */
    void sameBut(String call, List<String> before, List<String> after, String... mayChange) {
        same(call, without(before, mayChange), without(after, mayChange));
    }

    private static List<String> without(List<String> state, String[] starts) {
        List<String> kept = new ArrayList<>(state);
        for (String start : starts) {
            kept.removeIf(line -> line.startsWith(start + " "));
        }
        return kept;
    }

    /** Makes the call and compares its answer. */
    void answers(DumpLevels x, Call call, int want) {
        due(call.text(), want, call.on(x));
    }

    /** Makes the call and compares its answer and all that it changed, each as "asking call = new answer". */
    void changes(DumpLevels x, Call call, int want, String... changed) {
        int[] before = Shown.by(x);
        answers(x, call, want);
        List<String> due = new ArrayList<>(List.of(changed));
        List<String> got = Shown.changes(before, Shown.by(x));
        due.sort(null);
        got.sort(null);
        due(call.text() + " changed " + got + ", due is " + due, true, due.equals(got));
    }

    /**
     * Makes the call and sees that nothing changed: not what the object shows before and after, nor what it
     * shows and answers later beside one on which the call was not made, with the called method used there
     * and without it.
     */
    void changesNothing(Supplier<DumpLevels> make, Call call, int want) {
        changes(make.get(), call, want);
        for (String leftOut : new String[] {"none", call.method()}) {
            DumpLevels x = make.get();
            answers(x, call, want);
            same(call.text() + ", then later calls", Shown.laterOf(make.get(), leftOut), Shown.laterOf(x, leftOut));
        }
    }

    /** The five fields of a live inode. */
    void live(DumpLevels x, int inode, int kind, int parent, int name, int content, int stamp) {
        int[] want = {kind, parent, name, content, stamp};
        for (int what = 0; what < 5; what++) {
            due("inodeInfo(" + inode + ", " + what + ")", want[what], x.inodeInfo(inode, what));
        }
    }

    /** The five fields of a restored inode. */
    void restored(DumpLevels x, int inode, int kind, int parent, int name, int content, int stamp) {
        int[] want = {kind, parent, name, content, stamp};
        for (int what = 0; what < 5; what++) {
            due("restoredInfo(" + inode + ", " + what + ")", want[what], x.restoredInfo(inode, what));
        }
    }

    /** The six values that a dump recorded of an inode, FIELD_CAPTURED last. */
    void entry(DumpLevels x, int d, int inode, int... want) {
        for (int what = 0; what < 6; what++) {
            due("dumpEntry(" + d + ", " + inode + ", " + what + ")", want[what], x.dumpEntry(d, inode, what));
        }
    }

    /** The level, stamp, base and count of a dump. */
    void info(DumpLevels x, int d, int level, int stamp, int base, int captured) {
        int[] want = {level, stamp, base, captured};
        for (int what = 0; what < 4; what++) {
            due("dumpInfo(" + d + ", " + what + ")", want[what], x.dumpInfo(d, what));
        }
    }

    void end() {
        System.out.println(wrong == 0 ? "all answers are as due" : wrong + " answers are not as due");
        if (wrong != 0) {
            System.exit(1);
        }
    }
}
