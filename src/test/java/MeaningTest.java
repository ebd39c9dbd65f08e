/** Promise 4, fault 2 outside of bodies: what means nothing, where, and what is told first. */
public final class MeaningTest extends Mod {
    private static final int M = MARK;
    /* Signatures: 0 nothing, 1 an int parameter, 2 an int result. */
    private static final int[] THREE = section(1, row(3, signature(b(), b()), signature(b(I), b()), signature(b(), b(I))));
    private static final int[] TABLE = section(4, b(1, 112, 0, 0));
    private static final int[] MEMORY = section(5, b(1, 0, 0));
    private static final int[] BAD_BODY = section(10, b(1), body(NO_LOCALS, 26, 11));

    public static void main(String[] args) {
        signatures();
        limits();
        seconds();
        globals();
        exports();
        start();
        elements();
        data();
        orders();
        ordersWithin();
        Expect.done("MeaningTest");
    }

    private static int[] imported(int... kindAndRest) {
        return cat(b(1, 97, 1, 98), kindAndRest);
    }

    private static void signatures() {
        Expect.fault("import's signature", 2, module(THREE, section(2, row(2, imported(0, 2), imported(0, M, 3)))));
        Expect.fault("no signatures", 2, module(section(2, row(1, imported(0, M, 0)))));
        Expect.fault("far signature", 2, module(THREE, section(2, row(1, imported(0, M, 255, 255, 255, 255, 15)))));
        Expect.fault("own signature", 2,
            module(THREE, section(3, b(2, 0, M, 3)), section(10, b(2, 2, 0, 11, 2, 0, 11))));
        Expect.fault("own signature far off", 2,
            module(THREE, section(3, b(1, M, 255, 255, 255, 255, 15)), section(10, b(1, 2, 0, 11))));
    }

    private static void limits() {
        int[] high = {255, 255, 255, 255, 15};
        int[] pages = {128, 128, 4};
        int[] above = {129, 128, 4};
        Expect.fine("table, equal", module(section(4, b(1, 112, 1, 5, 5))));
        Expect.fine("table, highest", module(section(4, b(1, 112, 1), high, high)));
        Expect.fine("table, highest least", module(section(4, b(1, 112, 0), high)));
        Expect.fault("table, below", 2, module(section(4, b(1, 112, M, 1, 5, 4))));
        Expect.fault("table, below the highest", 2, module(section(4, b(1, 112, M, 1), high, b(0))));
        Expect.fine("memory, 65536", module(section(5, b(1, 1), pages, pages)));
        Expect.fault("memory, least 65537", 2, module(section(5, b(1, M, 0), above)));
        Expect.fault("memory, most 65537", 2, module(section(5, b(1, M, 1, 0), above)));
        Expect.fault("memory, most below", 2, module(section(5, b(1, M, 1, 1, 0))));
        Expect.fault("memory, highest", 2, module(section(5, b(1, M, 0), high)));
        Expect.fault("import's table", 2, module(section(2, row(1, imported(1, 112, M, 1, 2, 1)))));
        Expect.fault("import's memory", 2, module(section(2, row(1, imported(2, M, 0, 129, 128, 4)))));
        Expect.fault("imports in order", 2,
            module(THREE, section(2, row(2, imported(1, 112, M, 1, 2, 1), imported(0, 9)))));
    }

    private static void seconds() {
        int[] table = imported(1, 112, 0, 0);
        int[] memory = imported(2, 0, 0);
        Expect.fine("one of each", module(section(2, row(2, table, memory))));
        Expect.fault("second table", 2, module(section(4, b(2, 112, 0, 0, M, 112, 0, 0))));
        Expect.fault("second table, one imported", 2,
            module(section(2, row(1, table)), section(4, b(1, M, 112, 1, 1, 0))));
        Expect.fault("second imported table", 2, module(section(2, row(3, table, memory, cat(b(M), table)))));
        Expect.fault("third table", 2, module(section(2, row(3, table, cat(b(M), table), table)), TABLE));
        Expect.fault("second memory", 2, module(section(5, b(2, 0, 0, M, 0, 0))));
        Expect.fault("second memory, one imported", 2, module(section(2, row(1, memory)), section(5, b(1, M, 0, 0))));
        Expect.fault("second imported memory", 2, module(section(2, row(2, memory, cat(b(M), memory)))));
        Expect.fault("second table before second memory", 2,
            module(section(2, row(4, memory, memory, table, cat(b(M), table)))));
        Expect.fault("many tables", 2, module(section(4, row(100, b(112, 0, 0, M), times(99, 112, 0, 0)))));
    }

    /** Imported globals: 0 int, 1 int that can be changed, 2 long; then a global of its own. */
    private static int[] global(int type, int[] constant) {
        return module(
            section(2, row(4, imported(3, I, 0), imported(3, I, 1), imported(3, L, 0), imported(1, 112, 0, 0))),
            section(6, b(2, I, 0, 65, 0, 11, type, 1), constant));
    }

    private static void globals() {
        Expect.fine("int of 65", global(I, b(65, 0, 11)));
        Expect.fine("long of 66", global(L, b(66, 0, 11)));
        Expect.fine("int of 35", global(I, b(35, 0, 11)));
        Expect.fine("long of 35", global(L, b(35, 2, 11)));
        Expect.fault("int of 66", 2, global(I, b(M, 66, 0, 11)));
        Expect.fault("long of 65", 2, global(L, b(M, 65, 0, 11)));
        Expect.fault("one that can be changed", 2, global(I, b(M, 35, 1, 11)));
        Expect.fault("int of a long import", 2, global(I, b(M, 35, 2, 11)));
        Expect.fault("long of an int import", 2, global(L, b(M, 35, 0, 11)));
        Expect.fault("own global", 2, global(I, b(M, 35, 3, 11)));
        Expect.fault("itself", 2, global(I, b(M, 35, 4, 11)));
        Expect.fault("far off", 2, global(I, b(M, 35, 255, 255, 255, 255, 15, 11)));
    }

    private static int[] exported(int[]... exports) {
        return module(THREE, section(2, row(2, imported(0, 0), imported(3, I, 0))), section(3, b(1, 0)), TABLE, MEMORY,
            section(6, b(1, I, 0, 65, 0, 11)), section(7, row(exports.length, exports)),
            section(10, b(1, 2, 0, 11)));
    }

    private static void exports() {
        Expect.fine("all kinds", exported(b(1, 65, 0, 0), b(1, 66, 0, 1), b(1, 67, 1, 0), b(1, 68, 2, 0),
            b(1, 69, 3, 0), b(1, 70, 3, 1)));
        int[] first = b(1, 65, 0, 0);
        Expect.fault("function", 2, exported(first, b(1, 66, 0, M, 2)));
        Expect.fault("table", 2, exported(first, b(1, 66, 1, M, 1)));
        Expect.fault("memory", 2, exported(first, b(1, 66, 2, M, 1)));
        Expect.fault("global", 2, exported(first, b(1, 66, 3, M, 2)));
        Expect.fault("far off", 2, exported(first, b(1, 66, 3, M, 255, 255, 255, 255, 15)));
        Expect.fault("no memory", 2, module(section(7, b(1, 1, 66, 2, M, 0))));
        Expect.fault("name twice", 2, exported(first, b(1, 66, 2, 0), b(M, 1, 65, 3, 0)));
        Expect.fault("name twice, another U", 2, exported(first, b(M, 129, 0, 65, 3, 0)));
        Expect.fault("name twice, and not there", 2, exported(first, b(1, 65, 1, M, 1)));
        ModuleCheck twice = Expect.fine("once", exported(first));
        Expect.feed(twice, exported(first));
        Expect.same("the same name in the next module", twice.check(), 0);
        Expect.fine("names that begin alike", exported(b(2, 65, 65, 0, 0), first, b(3, 65, 65, 65, 0, 0),
            b(2, 65, 66, 0, 0)));
    }

    private static int[] started(int... function) {
        return module(THREE, section(2, row(1, imported(0, 1))), section(3, b(2, 0, 2)), section(8, function),
            section(10, b(2), body(NO_LOCALS, 11), body(NO_LOCALS, 65, 0, 11)));
    }

    private static void start() {
        Expect.fine("start", started(1));
        Expect.fault("with a parameter", 2, started(M, 0));
        Expect.fault("with a result", 2, started(M, 2));
        Expect.fault("no function", 2, started(M, 3));
        Expect.fault("far off", 2, started(M, 255, 255, 255, 255, 15));
    }

    private static int[] element(int[] table, int... segments) {
        return module(THREE, section(2, row(3, imported(0, 0), imported(3, I, 0), imported(3, L, 0))), table,
            section(6, b(1, I, 0, 65, 0, 11)), section(9, segments));
    }

    private static void elements() {
        Expect.fine("active", element(TABLE, 2, 0, 65, 0, 11, 2, 0, 0, 0, 35, 0, 11, 0));
        Expect.fine("without table", element(b(), 2, 1, 0, 1, 0, 3, 0, 1, 0));
        Expect.fault("active without table", 2, element(b(), 2, 1, 0, 1, 0, M, 0, 65, 0, 11, 1, 9));
        Expect.fault("long", 2, element(TABLE, 1, 0, M, 66, 0, 11, 1, 9));
        Expect.fault("long global", 2, element(TABLE, 1, 0, M, 35, 1, 11, 0));
        Expect.fault("own global", 2, element(TABLE, 1, 0, M, 35, 2, 11, 0));
        Expect.fault("function, active", 2, element(TABLE, 1, 0, 65, 0, 11, 2, 0, M, 1));
        Expect.fault("function, passive", 2, element(b(), 1, 1, 0, 2, 0, M, 1));
        Expect.fault("function, declared", 2, element(b(), 1, 3, 0, 1, M, 255, 255, 255, 255, 15));
    }

    private static int[] dated(int[] memory, int... segments) {
        return module(section(2, row(2, imported(3, I, 0), imported(3, I, 1))), memory, section(11, segments));
    }

    private static void data() {
        Expect.fine("active", dated(MEMORY, 2, 0, 65, 0, 11, 0, 0, 35, 0, 11, 1, 7));
        Expect.fine("passive without memory", dated(b(), 1, 1, 1, 7));
        Expect.fault("active without memory", 2, dated(b(), 2, 1, 0, M, 0, 66, 0, 11, 0));
        Expect.fault("long", 2, dated(MEMORY, 1, 0, M, 66, 0, 11, 0));
        Expect.fault("one that can be changed", 2, dated(MEMORY, 1, 0, M, 35, 1, 11, 0));
        Expect.fault("no global", 2, dated(MEMORY, 1, 0, M, 35, 2, 11, 0));
    }

    /** A mark on one of ten faults, while those behind it in the order are wrong too. */
    private static int[] wrongFrom(int first) {
        int[][] m = new int[10][];
        for (int i = 0; i < 10; i++) {
            m[i] = i == first ? b(M) : b();
        }
        int[] table = imported(1, 112, 0, 0);
        int[] memory = imported(2, 0, 0);
        boolean[] wrong = new boolean[10];
        for (int i = first; i < 10; i++) {
            wrong[i] = true;
        }
        int[] imports = cat(table, wrong[2] ? cat(m[2], table) : b(), memory, wrong[3] ? cat(m[3], memory) : b(),
            imported(0), m[0], wrong[0] ? b(3) : b(0));
        int many = 3 + (wrong[2] ? 1 : 0) + (wrong[3] ? 1 : 0);
        return module(THREE, section(2, row(many, imports)),
            section(3, b(1), m[1], wrong[1] ? b(3) : b(0)),
            section(6, b(1, L, 0), m[4], wrong[4] ? b(65, 0, 11) : b(66, 0, 11)),
            section(7, b(1, 1, 65, 0), m[5], wrong[5] ? b(2) : b(0)),
            section(8, m[6], wrong[6] ? b(2) : b(0)),
            section(9, b(1, 1, 0, 1), m[7], wrong[7] ? b(2) : b(0)),
            section(10, b(1), sized(b(0), m[9], wrong[9] ? b(26, 11) : b(11))),
            section(11, b(1, 0), m[8], wrong[8] ? b(66, 0, 11, 0) : b(65, 0, 11, 0)));
    }

    /** Where a section's items are wrong in several ways, the way that is listed first, not the item, is told. */
    private static void ordersWithin() {
        Expect.fault("second table before limits", 2, module(section(4, b(2, 112, 1, 2, 1, M, 112, 0, 0))));
        Expect.fault("second table before its own limits", 2, module(section(4, b(2, 112, 0, 0, M, 112, 1, 2, 1))));
        Expect.fault("third table's limits", 2, module(section(4, b(3, 112, 0, 0, M, 112, 0, 0, 112, 1, 2, 1))));
        Expect.fault("imported limits before a second table", 2,
            module(section(2, row(2, imported(1, 112, M, 1, 2, 1), imported(1, 112, 0, 0)))));
        Expect.fault("table limits before a second memory", 2,
            module(section(4, b(1, 112, M, 1, 2, 1)), section(5, b(2, 0, 0, 0, 0))));
        Expect.fault("second memory before limits", 2, module(section(5, b(2, 1, 2, 1, M, 0, 0))));
        Expect.fault("second memory before its own limits", 2, module(section(5, b(2, 0, 0, M, 1, 2, 1))));
        Expect.fault("second memory, one imported, before limits", 2,
            module(section(2, row(1, imported(2, 0, 0))), section(5, b(1, M, 0, 129, 128, 4))));
        Expect.fault("memory limits before a global", 2,
            module(section(5, b(1, M, 1, 2, 1)), section(6, b(1, I, 0, 66, 0, 11))));
        Expect.fault("globals one by one", 2, module(section(6, b(2, I, 0, M, 35, 0, 11, I, 0, 66, 0, 11))));
        int[] first = b(1, 65, 0, 0);
        Expect.fault("export not there before a name twice", 2, exported(first, first, b(1, 66, 0, M, 2), b(1, 67, 1, 1)));
        Expect.fault("name twice before the start", 2,
            module(MEMORY, section(7, b(2, 1, 65, 2, 0, M, 1, 65, 2, 0)), section(8, b(0))));
        Expect.fault("active without table before a function", 2,
            element(b(), 3, 1, 0, 1, 9, M, 0, 65, 0, 11, 1, 9, 0, 66, 0, 11, 0));
        Expect.fault("element's constant before a function", 2,
            element(TABLE, 3, 0, 65, 0, 11, 1, 9, 1, 0, 1, 9, 0, M, 66, 0, 11, 1, 9));
        Expect.fault("element's function before data", 2,
            module(section(9, b(1, 1, 0, 1, M, 0)), section(11, b(1, 0, 65, 0, 11, 0))));
        Expect.fault("active without memory before a constant", 2,
            dated(b(), 3, 1, 0, M, 0, 66, 0, 11, 0, 0, 66, 0, 11, 0));
    }

    private static void orders() {
        Expect.fine("nothing wrong", wrongFrom(10));
        for (int i = 0; i < 10; i++) {
            Expect.fault("order " + i, 2, wrongFrom(i));
        }
        Expect.fault("form comes before meaning", 1,
            module(section(2, row(1, imported(0, 0))), section(3, b(1, 0)), BAD_BODY, section(0, b(M, 0))));
        Expect.fault("too much comes before meaning", 4,
            module(section(2, row(1, imported(0, 0))), section(11, row(33, times(32, 1, 0), b(M, 1, 0)))));
    }
}
