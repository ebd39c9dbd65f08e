/** Promise 4, fault 4: what is too much, where, and when it is looked at. */
public final class LimitTest extends Mod {
    private static final int M = MARK;
    private static final int[] NONE = signature(b(), b());
    private static final int[] PLAIN = section(1, row(1, NONE));

    public static void main(String[] args) {
        signatures();
        imports();
        functionsAndGlobals();
        exports();
        segments();
        rows();
        namesInImportsAndExports();
        locals();
        blocks();
        Expect.done("LimitTest");
    }

    private static void signatures() {
        Expect.fine("64 signatures", module(section(1, row(64, times(64, NONE)))));
        Expect.fault("65 signatures", 4, module(section(1, row(65, times(64, NONE), b(M), NONE))));
        Expect.fault("65th signature, wrong in form", 4, module(section(1, row(65, times(64, NONE), b(M, 1)))));
        Expect.fault("65th signature, not there", 4, module(section(1, row(65, times(64, NONE))), b(M)));
        Expect.fault("64 signatures of 65, one wrong", 1,
            module(section(1, row(65, times(63, NONE), b(M, 97, 0, 0), NONE))));
        Expect.fine("16 parameters", module(section(1, row(1, signature(times(16, L), b(I))))));
        Expect.fault("17 parameters", 4, module(section(1, b(1, 96, 17), times(16, I), b(M, I, 0))));
        Expect.fault("17th parameter of no type", 4, module(section(1, b(1, 96, 18), times(16, I), b(M, 0, 0, 0))));
        Expect.fault("17th parameter, not there", 4, module(section(1, b(1, 96, 17), times(16, I)), b(M)));
        Expect.fault("17 parameters told, the 16th not there", 1,
            module(section(1, b(1, 96, 17), times(15, I)), b(M)));
        Expect.fault("2 results", 4, module(section(1, b(1, 96, 0, 2, I, M, I))));
        Expect.fault("2 results told, none there", 1, module(section(1, b(1, 96, 0, 2)), b(M)));
        Expect.fault("2nd result, not there", 4, module(section(1, b(1, 96, 0, 2, I)), b(M)));
    }

    private static void imports() {
        int[] each = cat(name("a"), name("f"), b(0, 0));
        Expect.fine("32 imports", module(PLAIN, section(2, row(32, times(32, each)))));
        Expect.fault("33 imports", 4, module(PLAIN, section(2, row(33, times(32, each), b(M), each))));
        Expect.fault("33rd import wrong in form", 4, module(PLAIN, section(2, row(33, times(32, each), b(M, 0)))));
        Expect.fault("much before no meaning", 4,
            module(PLAIN, section(2, row(33, times(32, 1, 97, 1, 97, 0, 7), b(M), each))));
    }

    private static void functionsAndGlobals() {
        Expect.fine("64 functions", module(PLAIN, section(3, row(64, times(64, 0))),
            section(10, row(64, times(64, 2, 0, 11)))));
        Expect.fault("65 functions", 4, module(PLAIN, section(3, row(65, times(64, 0), b(M, 0)))));
        Expect.fault("65th function wrong in form", 4,
            module(PLAIN, section(3, row(66, times(64, 0), b(M, 128, 128, 128, 128, 16, 0)))));
        Expect.fine("imported functions are not own ones", module(PLAIN,
            section(2, row(32, times(32, 1, 97, 1, 102, 0, 0))), section(3, row(64, times(64, 0))),
            section(10, row(64, times(64, 2, 0, 11)))));
        int[] global = b(I, 0, 65, 0, 11);
        Expect.fine("32 globals", module(section(6, row(32, times(32, global)))));
        Expect.fault("33 globals", 4, module(section(6, row(33, times(32, global), b(M), global))));
        Expect.fault("33rd global wrong in form", 4, module(section(6, row(33, times(32, global), b(M, 1)))));
        int[] two = section(2, row(2, times(2, 1, 97, 1, 103, 3, I, 0)));
        Expect.fine("32 globals beside the imported", module(two, section(6, row(32, times(32, global)))));
        Expect.fault("33 globals beside the imported", 4,
            module(two, section(6, row(33, times(32, global), b(M), global))));
    }

    private static int[] exportNames(int many) {
        int[] all = b();
        for (int i = 0; i < many; i++) {
            all = cat(all, b(2, 40 + i, 65, 2, 0));
        }
        return all;
    }

    private static void exports() {
        int[] memory = section(5, b(1, 0, 0));
        Expect.fine("64 exports", module(memory, section(7, row(64, exportNames(64)))));
        Expect.fault("65 exports", 4, module(memory, section(7, row(65, exportNames(64), b(M, 1, 33, 2, 0)))));
        Expect.fault("65th export wrong in form", 4, module(memory, section(7, row(65, exportNames(64), b(M, 0)))));
    }

    private static void segments() {
        Expect.fine("32 elements", module(section(9, row(32, times(32, 1, 0, 0)))));
        Expect.fault("33 elements", 4, module(section(9, row(33, times(32, 1, 0, 0), b(M, 1, 0, 0)))));
        Expect.fault("33rd element wrong in form", 4, module(section(9, row(33, times(32, 1, 0, 0), b(M, 9)))));
        Expect.fine("32 data", module(section(11, row(32, times(32, 1, 0)))));
        Expect.fault("33 data", 4, module(section(11, row(33, times(32, 1, 0), b(M, 1, 0)))));
        Expect.fault("33rd data wrong in form", 4, module(section(11, row(33, times(32, 1, 0), b(M, 9)))));
        Expect.fine("long data", module(section(11, b(1, 1), u(5000), times(5000, 255))));
    }

    private static void rows() {
        int[] function = section(2, b(1, 1, 97, 1, 98, 0, 0));
        Expect.fine("row of 256", module(PLAIN, function, section(9, b(1, 1, 0), row(256, times(256, 0)))));
        Expect.fault("row of 257", 4, module(PLAIN, function, section(9, b(1, 1, 0, M), row(257, times(257, 0)))));
        Expect.fault("row of 257, not there", 4, module(PLAIN, function, section(9, b(1, 1, 0, M), u(257))));
        Expect.fault("active row of 257", 4,
            module(PLAIN, function, section(9, b(1, 0, 65, 0, 11, M), row(257, times(257, 0)))));
        Expect.fine("br_table of 256", alone(cat(b(65, 0, 14), row(256, times(256, 0)), b(0, 11))));
        Expect.fault("br_table of 257", 4, alone(cat(b(65, 0, 14, M), row(257, times(257, 0)), b(0, 11))));
        Expect.fault("br_table far above", 4, alone(cat(b(65, 0, 14, M, 255, 255, 255, 255, 15, 0, 11))));
    }

    private static void namesInImportsAndExports() {
        String forty = "x".repeat(40);
        int[] rest = b(0, 0);
        Expect.fine("import names of 40",
            module(PLAIN, section(2, row(1, name(forty), name(forty), rest))));
        Expect.fault("import's first name of 41", 4,
            module(PLAIN, section(2, b(1, M), name(forty + "x"), name("a"), rest)));
        Expect.fault("import's second name of 100", 4,
            module(PLAIN, section(2, b(1), name("a"), b(M), name(forty + forty + "x".repeat(20)), rest)));
        Expect.fault("import's name of 101", 1,
            module(PLAIN, section(2, b(1, M), name(forty + forty + "x".repeat(21)), name("a"), rest)));
        Expect.fault("a wrong name is no name above 40", 1,
            module(PLAIN, section(2, b(1, M), name(forty + " "), name("a"), rest)));
        int[] memory = section(5, b(1, 0, 0));
        Expect.fine("export name of 40", module(memory, section(7, row(1, name(forty), b(2, 0)))));
        Expect.fault("export name of 41", 4, module(memory, section(7, b(1, M), name(forty + "x"), b(2, 0))));
    }

    private static int[] withGroups(int[] groups) {
        return around(times(16, I), b(), groups, 11);
    }

    private static void locals() {
        Expect.fine("64 locals beside 16 parameters", withGroups(b(1, 64, I)));
        Expect.fine("64 in groups", withGroups(b(4, 60, I, 0, L, 4, L, 0, I)));
        Expect.fault("65 locals", 4, withGroups(b(1, M, 65, I)));
        Expect.fault("65 in groups", 4, withGroups(b(3, 60, I, 4, L, M, 1, L)));
        Expect.fault("far above", 4, withGroups(b(2, 1, I, M, 255, 255, 255, 255, 15, L)));
        Expect.fault("a group of no type is no group", 1, withGroups(b(1, 65, M, 64)));
    }

    private static void blocks() {
        int[] open = times(20, 2, 64, 3, 64, 65, 0, 4, 64);
        Expect.fine("60 blocks", alone(cat(open, times(60, 11), b(11))));
        for (int opener : new int[] {2, 3, 4}) {
            Expect.fault("61st by " + opener, 4, alone(cat(open, b(M, opener, 64, 11), times(60, 11), b(11))));
            Expect.fault("61st by " + opener + ", no type", 4, alone(cat(open, b(M, opener, 65))));
        }
        Expect.fine("60 deep, twice", alone(cat(open, times(60, 11), open, times(60, 11), b(11))));
        Expect.fine("59 and three", alone(cat(times(59, 2, 64), times(3, 2, 64, 11), times(59, 11), b(11))));
    }
}
