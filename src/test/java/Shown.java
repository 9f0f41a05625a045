import java.util.ArrayList;
import java.util.HashMap;
import java.util.List;
import java.util.Map;

/**
 * All that an object shows. The asking calls are made with every argument in its range for the greatest
 * object, and with those next to the range; the changing calls only by laterOf, which uses the object up.
 */
final class Shown extends Calls {
    private static final String[] FIELDS = {"KIND", "PARENT", "NAME", "CONTENT", "STAMP", "CAPTURED"};
    private static final String[] DUMP_FIELDS = {"LEVEL", "STAMP", "BASE", "CAPTURED"};
    private static final List<Call> QUESTIONS = questions();
    private static final Map<String, List<Call>> QUESTIONS_WITHOUT = new HashMap<>();
    private static final List<List<Call>> LATER = laterParts();

    private Shown() {
    }

    private static String name(String[] names, int what) {
        return what < 0 || what >= names.length ? "" + what : names[what];
    }

    private static List<Call> questions() {
        List<Call> all = new ArrayList<>();
        all.add(getClock());
        all.add(restoreStamp());
        all.add(restoreMatches());
        for (int level = -1; level < 11; level++) {
            all.add(dumpDate(level));
        }
        for (int i = -1; i < 18; i++) {
            addInode(all, i);
        }
        for (int d = -1; d < 10; d++) {
            addDump(all, d);
        }
        return all;
    }

    private static void addInode(List<Call> all, int inode) {
        for (int what = -1; what < 7; what++) {
            String arguments = "(" + inode + ", " + name(FIELDS, what) + ")";
            all.add(new Call("inodeInfo" + arguments, inodeInfo(inode, what).ask()));
            all.add(new Call("restoredInfo" + arguments, restoredInfo(inode, what).ask()));
        }
        for (int name = -1; name < 258; name++) {
            all.add(lookup(inode, name));
        }
    }

    private static void addDump(List<Call> all, int d) {
        for (int what = -1; what < 5; what++) {
            String call = "dumpInfo(" + d + ", " + name(DUMP_FIELDS, what) + ")";
            all.add(new Call(call, dumpInfo(d, what).ask()));
        }
        for (int i = -1; i < 18; i++) {
            for (int what = -1; what < 7; what++) {
                String call = "dumpEntry(" + d + ", " + i + ", " + name(FIELDS, what) + ")";
                all.add(new Call(call, dumpEntry(d, i, what).ask()));
            }
        }
    }

    static int[] by(DumpLevels x) {
        return by(x, QUESTIONS);
    }

    private static int[] by(DumpLevels x, List<Call> questions) {
        int[] answers = new int[questions.size()];
        for (int k = 0; k < answers.length; k++) {
            answers[k] = questions.get(k).on(x);
        }
        return answers;
    }

    /** The answers that are new, each as "call = answer". */
    static List<String> changes(int[] before, int[] after) {
        return changes(QUESTIONS, before, after);
    }

    private static List<String> changes(List<Call> questions, int[] before, int[] after) {
        List<String> changed = new ArrayList<>();
        for (int k = 0; k < before.length; k++) {
            if (before[k] != after[k]) {
                changed.add(questions.get(k).text() + " = " + after[k]);
            }
        }
        return changed;
    }

    /**
     * What is shown now, and what a fixed run of changing calls answers from here on, with what is shown
     * between its parts: it tells a change that no asking call shows yet. One method is left out, or none
     * if there is none of that name: what that method itself does to an object shows only against an
     * object on which it was never called.
     */
    static List<String> laterOf(DumpLevels x, String leftOut) {
        List<String> answers = new ArrayList<>();
        List<Call> questions = QUESTIONS_WITHOUT.computeIfAbsent(leftOut, name -> without(QUESTIONS, name));
        // Beside this start, only what is not 0 is told.
        int[] start = new int[questions.size()];
        for (List<Call> part : LATER) {
            int[] now = by(x, questions);
            answers.addAll(changes(questions, start, now));
            start = now;
            for (Call call : without(part, leftOut)) {
                answers.add(call.text() + " = " + call.on(x));
            }
        }
        answers.addAll(changes(questions, start, by(x, questions)));
        return answers;
    }

    private static List<Call> without(List<Call> calls, String method) {
        return calls.stream().filter(call -> !call.method().equals(method)).toList();
    }

    private static List<List<Call>> laterParts() {
        List<Call> first = new ArrayList<>();
        List<Call> second = new ArrayList<>();
        List<Call> third = new ArrayList<>();
        for (int d = 0; d < 9; d++) {
            first.add(restoreApply(d));
            second.add(dump(9 - d));
            second.add(dump(d));
            second.add(restoreApply(d));
        }
        for (int i = 0; i < 17; i++) {
            first.add(write(i, 1000 + i));
            first.add(create(i, 240, FILE));
            second.add(create(0, 200 + i, DIR));
            second.add(rename(i, 0, 220 + i));
            third.add(remove(16 - i));
        }
        List<List<Call>> parts = new ArrayList<>(List.of(first, second, third));
        for (int last = 0; last < 8; last++) {
            parts.add(restoreUpTo(last));
        }
        return parts;
    }

    private static List<Call> restoreUpTo(int last) {
        List<Call> part = new ArrayList<>();
        part.add(restoreReset());
        for (int d = 0; d <= last; d++) {
            part.add(restoreApply(d));
        }
        return part;
    }
}
