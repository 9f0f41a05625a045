import java.util.LinkedHashMap;
import java.util.Map;
import java.util.function.Supplier;

/** States that the tests of the sentences start from; every call makes a new object. */
final class States extends Calls {
    private States() {
    }

    static DumpLevels least() {
        return new DumpLevels(4, 2);
    }

    static DumpLevels greatest() {
        return new DumpLevels(16, 8);
    }

    /**
     * Six inodes and four dumps. Inode 1 is a directory in the root, 2 a file (77) and 3 an empty directory
     * in it, 4 a file (-8) in the root, 5 is free. Dump 0 (level 0, stamp 6) and dump 1 (level 3, stamp 8,
     * base 6) are taken; dump 0 is applied, which has not the -8. The clock is 8.
     */
    static DumpLevels busy() {
        DumpLevels x = dumped();
        x.restoreApply(0);
        return x;
    }

    /** As busy, but no dump was ever applied. */
    static DumpLevels dumped() {
        DumpLevels x = new DumpLevels(6, 4);
        x.create(0, 10, DIR);
        x.create(1, 11, FILE);
        x.create(1, 12, DIR);
        x.create(0, 13, FILE);
        x.write(2, 77);
        x.dump(0);
        x.write(4, -8);
        x.dump(3);
        return x;
    }

    /**
     * Six inodes and two dumps, with no inode free and no dump left. As busy, but inode 5 is a file in
     * directory 3, the dumps' stamps are 7 and 9, and both are applied. The clock is 9.
     */
    static DumpLevels full() {
        DumpLevels x = new DumpLevels(6, 2);
        x.create(0, 10, DIR);
        x.create(1, 11, FILE);
        x.create(1, 12, DIR);
        x.create(0, 13, FILE);
        x.create(3, 14, FILE);
        x.write(2, 77);
        x.dump(0);
        x.write(4, -8);
        x.dump(3);
        x.restoreApply(0);
        x.restoreApply(1);
        return x;
    }

    /**
     * The greatest object, with no inode free and no dump left: directories 1 to 7 in the root named 1 to 7,
     * files 8 to 14 in them, file 15 in the root, all files named 255 and written. Dump d is of level d and
     * has stamp 17 + 2 * d; dumps 0 and 1 are applied. The clock is 31.
     */
    static DumpLevels crowded() {
        DumpLevels x = new DumpLevels(16, 8);
        for (int i = 1; i < 8; i++) {
            x.create(0, i, DIR);
        }
        for (int i = 8; i < 15; i++) {
            x.create(i - 7, 255, FILE);
        }
        x.create(0, 255, FILE);
        for (int d = 0; d < 8; d++) {
            x.write(8 + d, 500 + d);
            x.dump(d);
        }
        x.restoreApply(0);
        x.restoreApply(1);
        return x;
    }

    /** As busy, after all that it held was removed again; dump 1 is applied too. */
    static DumpLevels emptied() {
        DumpLevels x = busy();
        x.restoreApply(1);
        for (int i = 4; i > 0; i--) {
            x.remove(i);
        }
        return x;
    }

    static Map<String, Supplier<DumpLevels>> all() {
        Map<String, Supplier<DumpLevels>> all = new LinkedHashMap<>();
        all.put("least", States::least);
        all.put("greatest", States::greatest);
        all.put("dumped", States::dumped);
        all.put("busy", States::busy);
        all.put("full", States::full);
        all.put("crowded", States::crowded);
        all.put("emptied", States::emptied);
        return all;
    }
}
