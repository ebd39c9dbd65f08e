import java.util.ArrayList;
import java.util.List;

/** Builds modules out of bytes. A MARK among them is no byte: it tells the place of the fault that is due. */
abstract class Mod {
    static final int MARK = -1;
    static final int I = 127;
    static final int L = 126;
    static final int[] HEADER = {0, 97, 115, 109, 1, 0, 0, 0};
    static final int[] NO_LOCALS = {0};

    static int[] b(int... bytes) {
        return bytes;
    }

    static int[] cat(int[]... parts) {
        List<Integer> all = new ArrayList<>();
        for (int[] part : parts) {
            for (int each : part) {
                all.add(each);
            }
        }
        return all.stream().mapToInt(Integer::intValue).toArray();
    }

    static int length(int[] marked) {
        int length = 0;
        for (int each : marked) {
            if (each != MARK) {
                length++;
            }
        }
        return length;
    }

    static int placeOfMark(int[] marked) {
        for (int i = 0; i < marked.length; i++) {
            if (marked[i] == MARK) {
                return i;
            }
        }
        return -1;
    }

    static int[] withoutMark(int[] marked) {
        int[] bytes = new int[length(marked)];
        int used = 0;
        for (int each : marked) {
            if (each != MARK) {
                bytes[used++] = each;
            }
        }
        return bytes;
    }

    static int[] u(long number) {
        int[] groups = new int[5];
        int used = 0;
        long rest = number;
        do {
            groups[used++] = (int) (rest & 127) + (rest > 127 ? 128 : 0);
            rest >>= 7;
        } while (rest > 0);
        return java.util.Arrays.copyOf(groups, used);
    }

    static int[] times(int many, int... bytes) {
        int[][] parts = new int[many][];
        for (int i = 0; i < many; i++) {
            parts[i] = bytes;
        }
        return cat(parts);
    }

    /** A row of so many items, whose bytes are given in one piece. */
    static int[] row(int many, int[]... bytes) {
        return cat(u(many), cat(bytes));
    }

    static int[] sized(int[]... parts) {
        int[] bytes = cat(parts);
        return cat(u(length(bytes)), bytes);
    }

    static int[] section(int number, int[]... parts) {
        return cat(b(number), sized(parts));
    }

    static int[] module(int[]... sections) {
        return cat(HEADER, cat(sections));
    }

    static int[] name(String name) {
        return cat(u(name.length()), name.chars().toArray());
    }

    static int[] signature(int[] parameters, int[] results) {
        return cat(b(96), row(length(parameters), parameters), row(length(results), results));
    }

    static int[] body(int[] groups, int... code) {
        return sized(groups, code);
    }

    /**
     * A module around one own function: globals int (fixed), int (changed), long (fixed), long
     * (changed), a table, a memory, two passive element segments and three passive data segments.
     * Functions: 0 imported (int, long) to long, 1 imported without both, 2 the own one. Signatures
     * are these two and as third the own one's.
     */
    static int[] around(int[] parameters, int[] results, int[] groups, int... code) {
        return module(
            section(1, row(3, signature(b(I, L), b(L)), signature(b(), b()), signature(parameters, results))),
            section(2, row(2, name("a"), name("f"), b(0, 0), name("a"), name("g"), b(0, 1))),
            section(3, row(1, b(2))),
            section(4, row(1, b(112, 0, 1))),
            section(5, row(1, b(0, 1))),
            section(6, row(4, b(I, 0, 65, 0, 11), b(I, 1, 65, 0, 11), b(L, 0, 66, 0, 11), b(L, 1, 66, 0, 11))),
            section(9, row(2, b(1, 0, 0), b(3, 0, 1, 0))),
            section(12, b(3)),
            section(10, row(1, body(groups, code))),
            section(11, row(3, b(1, 0), b(1, 0), b(1, 0))));
    }

    /** One function without parameters and results, and nothing beside it. */
    static int[] alone(int... code) {
        return module(section(1, row(1, signature(b(), b()))), section(3, row(1, b(0))),
            section(10, row(1, body(NO_LOCALS, code))));
    }
}
