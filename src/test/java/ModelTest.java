import java.util.ArrayDeque;
import java.util.ArrayList;
import java.util.Deque;
import java.util.List;
import java.util.TreeMap;

/**
 * Long mixed runs of calls, each answered both by DumpLevels and by a second, plainer telling of the
 * document over the library's collections; after every call all that the object shows is compared.
 * The calls come from a fixed arithmetic sequence, so that each run is the same every time.
 */
public final class ModelTest {
    private static final int RUNS = 600;
    private static final int CALLS = 120;

    /** An inode in use, other than the root. */
    private record Node(int kind, int parent, int name, int content, int stamp) {
        int field(int what) {
            return new int[] {kind, parent, name, content, stamp}[what];
        }
    }

    /** A taken dump, with the whole live side as it was then. */
    private record Taken(int level, int stamp, int base, TreeMap<Integer, Node> then) {
        boolean captured(int inode) {
            return then.containsKey(inode) && then.get(inode).stamp() > base;
        }
    }

    private static long seed;
    private static int wrong;

    private final int n;
    private final int limit;
    private final DumpLevels x;
    private final List<String> calls = new ArrayList<>();
    private final TreeMap<Integer, Node> live = new TreeMap<>();
    private TreeMap<Integer, Node> restored = new TreeMap<>();
    private final List<Taken> dumps = new ArrayList<>();
    private int clock;
    private int restoreStamp;

    private ModelTest(int inodes, int limit) {
        this.n = inodes;
        this.limit = limit;
        this.x = new DumpLevels(inodes, limit);
    }

    public static void main(String[] args) {
        for (int run = 0; run < RUNS && wrong == 0; run++) {
            seed = 7919L * run + 1;
            ModelTest test = new ModelTest(4 + pick(13), 2 + pick(7));
            for (int k = 0; k < CALLS && wrong == 0; k++) {
                test.step();
                test.compare();
            }
            test.everyChain();
            if (wrong != 0) {
                System.out.println("run " + run + ", new DumpLevels(" + test.n + ", " + test.limit + "):");
                test.calls.forEach(System.out::println);
            }
        }
        System.out.println(wrong == 0 ? "all answers are as due" : wrong + " answers are not as due");
        if (wrong != 0) {
            System.exit(1);
        }
    }

    private static int pick(int bound) {
        seed = seed * 6364136223846793005L + 1442695040888963407L;
        return (int) ((seed >>> 33) % bound);
    }

    private static int odd(int usual) {
        if (pick(12) != 0) {
            return usual;
        }
        return Checks.WILD[pick(Checks.WILD.length)];
    }

    private int anyInode() {
        return odd(pick(n + 2) - 1);
    }

    private int anyName() {
        return odd(pick(8) == 0 ? 250 + pick(8) : pick(6));
    }

    private void due(String call, long want, long got) {
        calls.add(call + " = " + got);
        if (want != got) {
            wrong++;
            System.out.println(call + " answered " + got + ", due is " + want);
        }
    }

    private void step() {
        int a = anyInode();
        int b = anyInode();
        int name = anyName();
        int value = pick(3) == 0 ? odd(0) : pick(1000) - 500;
        int kind = odd(pick(9) == 0 ? pick(5) - 1 : 1 + pick(2));
        int level = odd(pick(12) - 1);
        int d = odd(pick(limit + 2) - 1);
        switch (pick(20)) {
            case 0, 1, 2, 3, 4 -> due("create(" + a + ", " + name + ", " + kind + ")",
                create(a, name, kind), x.create(a, name, kind));
            case 5, 6, 7 -> due("write(" + a + ", " + value + ")", write(a, value), x.write(a, value));
            case 8, 9 -> due("remove(" + a + ")", remove(a), x.remove(a));
            case 10, 11, 12 -> due("rename(" + a + ", " + b + ", " + name + ")",
                rename(a, b, name), x.rename(a, b, name));
            case 13, 14 -> due("lookup(" + a + ", " + name + ")", lookup(a, name), x.lookup(a, name));
            case 15 -> due("dump(" + level + ")", dump(level), x.dump(level));
            case 16, 17, 18 -> due("restoreApply(" + d + ")", apply(d), x.restoreApply(d));
            default -> {
                if (pick(3) == 0) {
                    calls.add("restoreReset()");
                    restored = new TreeMap<>();
                    restoreStamp = 0;
                    x.restoreReset();
                }
            }
        }
    }

    private boolean isDir(int inode) {
        return inode == 0 || live.containsKey(inode) && live.get(inode).kind() == 2;
    }

    private int lookup(int parent, int name) {
        for (int i : live.keySet()) {
            if (live.get(i).parent() == parent && live.get(i).name() == name) {
                return i;
            }
        }
        return -1;
    }

    private int create(int parent, int name, int kind) {
        if (kind != 1 && kind != 2) {
            return -1;
        }
        if (!isDir(parent)) {
            return -2;
        }
        if (name < 1 || name > 255) {
            return -3;
        }
        if (lookup(parent, name) != -1) {
            return -4;
        }
        int i = 1;
        while (live.containsKey(i)) {
            i++;
        }
        if (i >= n) {
            return -5;
        }
        clock++;
        live.put(i, new Node(kind, parent, name, 0, clock));
        return i;
    }

    private int write(int inode, int value) {
        Node old = live.get(inode);
        if (old == null) {
            return -6;
        }
        if (old.kind() == 2) {
            return -1;
        }
        clock++;
        live.put(inode, new Node(1, old.parent(), old.name(), value, clock));
        return 0;
    }

    private int remove(int inode) {
        if (!live.containsKey(inode)) {
            return -6;
        }
        if (live.values().stream().anyMatch(node -> node.parent() == inode)) {
            return -7;
        }
        live.remove(inode);
        return 0;
    }

    private int rename(int inode, int newParent, int newName) {
        Node old = live.get(inode);
        if (old == null) {
            return -6;
        }
        if (!isDir(newParent)) {
            return -2;
        }
        if (newName < 1 || newName > 255) {
            return -3;
        }
        for (int up = newParent; up != 0; up = live.get(up).parent()) {
            if (up == inode) {
                return -8;
            }
        }
        int holder = lookup(newParent, newName);
        if (holder != -1 && holder != inode) {
            return -4;
        }
        live.put(inode, new Node(old.kind(), newParent, newName, old.content(), old.stamp()));
        return 0;
    }

    private int date(int level) {
        return dumps.stream().filter(t -> t.level() == level).mapToInt(Taken::stamp).max().orElse(0);
    }

    private int dump(int level) {
        if (level < 0 || level > 9) {
            return -9;
        }
        if (dumps.size() == limit) {
            return -5;
        }
        int base = dumps.stream().filter(t -> t.level() < level).mapToInt(Taken::stamp).max().orElse(0);
        clock++;
        dumps.add(new Taken(level, clock, base, new TreeMap<>(live)));
        return dumps.size() - 1;
    }

    private int apply(int d) {
        if (d < 0 || d >= dumps.size()) {
            return -10;
        }
        Taken dump = dumps.get(d);
        if (dump.base() != restoreStamp) {
            return -11;
        }
        // The document's chain restore: a chain that was applied gives the live side of its last dump.
        restored = new TreeMap<>(dump.then());
        restoreStamp = dump.stamp();
        return 0;
    }

    private static int fieldOf(TreeMap<Integer, Node> side, int inode, int what) {
        if (inode == 0) {
            return what == 0 ? 2 : 0;
        }
        return side.containsKey(inode) ? side.get(inode).field(what) : 0;
    }

    private void shows(String call, long want, long got) {
        if (want != got) {
            wrong++;
            System.out.println(call + " answered " + got + ", due is " + want);
        }
    }

    private void compare() {
        shows("getClock()", clock, x.getClock());
        shows("restoreStamp()", restoreStamp, x.restoreStamp());
        shows("restoreMatches()", restored.equals(live) ? 1 : 0, x.restoreMatches() ? 1 : 0);
        for (int level = 0; level < 10; level++) {
            shows("dumpDate(" + level + ")", date(level), x.dumpDate(level));
        }
        for (int i = 0; i < n; i++) {
            for (int what = 0; what < 5; what++) {
                shows("inodeInfo(" + i + ", " + what + ")", fieldOf(live, i, what), x.inodeInfo(i, what));
                shows("restoredInfo(" + i + ", " + what + ")", fieldOf(restored, i, what),
                    x.restoredInfo(i, what));
            }
        }
        for (int d = 0; d < dumps.size(); d++) {
            compareDump(d, dumps.get(d));
        }
        shows("dumpInfo of no dump", -1, x.dumpInfo(dumps.size(), 0));
    }

    private void compareDump(int d, Taken dump) {
        int count = 0;
        for (int i = 0; i < n; i++) {
            boolean captured = dump.captured(i);
            count += captured ? 1 : 0;
            for (int what = 0; what < 5; what++) {
                int want = what < 3 || captured ? fieldOf(dump.then(), i, what) : 0;
                shows("dumpEntry(" + d + ", " + i + ", " + what + ")", want, x.dumpEntry(d, i, what));
            }
            shows("dumpEntry(" + d + ", " + i + ", 5)", captured ? 1 : 0, x.dumpEntry(d, i, 5));
        }
        int[] info = {dump.level(), dump.stamp(), dump.base(), count};
        for (int what = 0; what < 4; what++) {
            shows("dumpInfo(" + d + ", " + what + ")", info[what], x.dumpInfo(d, what));
        }
    }

    /** Restores every taken dump by its chain and compares it with the live side of that time. */
    private void everyChain() {
        for (int last = 0; last < dumps.size(); last++) {
            Deque<Integer> chain = new ArrayDeque<>();
            int base = dumps.get(last).base();
            chain.push(last);
            for (int d = last - 1; d >= 0; d--) {
                if (dumps.get(d).stamp() == base) {
                    chain.push(d);
                    base = dumps.get(d).base();
                }
            }
            calls.add("restoreReset()");
            restored = new TreeMap<>();
            restoreStamp = 0;
            x.restoreReset();
            for (int d : chain) {
                due("restoreApply(" + d + ")", apply(d), x.restoreApply(d));
                shows("the chain's restoreApply", 0, restoreStamp == dumps.get(d).stamp() ? 0 : 1);
                compare();
            }
        }
    }
}
