import java.util.Arrays;

/** Promise 4, fault 1: what a module is byte by byte, and where it is not so. */
public final class FormTest extends Mod {
    private static final int M = MARK;
    private static final int[] PLAIN = section(1, row(1, signature(b(), b())));

    public static void main(String[] args) {
        header();
        sectionOrder();
        sectionSizes();
        numbers();
        names();
        signaturesAndImports();
        tablesAndMemories();
        constants();
        exportsAndStart();
        segments();
        bodies();
        fitting();
        instructions();
        instructionNumbers();
        elses();
        Expect.done("FormTest");
    }

    private static void header() {
        Expect.fine("header alone", HEADER);
        for (int i = 0; i < 8; i++) {
            int[] cut = Arrays.copyOf(HEADER, i);
            int[] rest = Arrays.copyOfRange(HEADER, i + 1, 8);
            Expect.fault("header cut at " + i, 1, cat(cut, b(M)));
            Expect.fault("header wrong at " + i, 1, cat(cut, b(M, HEADER[i] + 1), rest));
            Expect.fault("header 255 at " + i, 1, cat(cut, b(M, 255), rest));
        }
    }

    private static void sectionOrder() {
        int[] order = {1, 2, 3, 4, 5, 6, 7, 9, 12, 10, 11};
        int[] all = HEADER;
        for (int each : order) {
            all = cat(all, section(0, b(1, 65, 200)), section(each, b(0)));
        }
        Expect.fine("all sections but the start", cat(all, section(0, b(1, 65)), section(0, b(1, 65))));
        int[] ranks = {1, 2, 3, 4, 5, 6, 7, 9, 12, 10, 11};
        for (int i = 0; i < ranks.length; i++) {
            for (int k = 0; k <= i; k++) {
                Expect.fault(ranks[k] + " behind " + ranks[i], 1,
                    module(section(ranks[i], b(0)), b(M), section(ranks[k], b(0))));
            }
        }
        Expect.fault("7 behind the start", 1, cat(withStart(), b(M), section(7, b(0))));
        Expect.fault("start twice", 1, cat(withStart(), b(M), section(8, b(0))));
        Expect.fault("8 behind 9", 1, module(section(9, b(0)), b(M), section(8, b(0))));
        Expect.fault("section 13", 1, module(b(M), section(13, b(0))));
        Expect.fault("section 255", 1, module(b(M), section(255, b(0))));
        Expect.fault("wrong section without a size", 1, module(b(M, 14)));
    }

    private static int[] withStart() {
        return module(section(1, row(1, signature(b(), b()))), section(2, row(1, name("a"), name("b"), b(0, 0))),
            section(8, b(0)));
    }

    private static void sectionSizes() {
        Expect.fault("no size", 1, module(b(1, M)));
        Expect.fault("size not whole", 1, module(b(1, 128, M)));
        Expect.fault("size above what is there", 1, module(b(1, M, 2, 0)));
        Expect.fault("size far above", 1, module(b(1, M, 255, 255, 255, 255, 15, 0)));
        Expect.fault("more bytes than items", 1, module(section(1, b(0), b(M, 0))));
        Expect.fault("more bytes than a start", 1,
            module(PLAIN, section(2, row(1, name("a"), name("b"), b(0, 0))), section(8, b(0), b(M, 0))));
        Expect.fault("more bytes than 12", 1, module(section(12, b(0), b(M, 0, 0))));
        Expect.fault("no bytes", 1, module(section(1), b(M)));
        Expect.fault("no bytes of a start", 1, module(section(8), b(M)));
        Expect.fault("no bytes of 12", 1, module(section(12), b(M)));
        Expect.fault("an item short, though bytes follow", 1,
            module(section(1, b(2), signature(b(), b())), b(M), section(0, b(1, 65))));
    }

    private static void numbers() {
        Expect.fine("long zero", module(section(12, b(128, 128, 128, 128, 0))));
        Expect.fault("fifth byte 16", 1, module(section(12, b(M, 128, 128, 128, 128, 16))));
        Expect.fault("fifth byte 128", 1, module(section(12, b(M, 128, 128, 128, 128, 128, 0))));
        Expect.fault("highest U: the data don't fit", 1, module(section(12, b(255, 255, 255, 255, 15)), b(M)));
        Expect.fault("cut in U", 1, module(section(12, b(128, 128)), b(M)));
        Expect.fault("row far above", 1, module(section(3, b(255, 255, 255, 255, 15)), b(M)));
    }

    private static void names() {
        String sixtyFour = "x".repeat(64);
        Expect.fine("name of 100", module(section(0, name(sixtyFour + "x".repeat(36)))));
        Expect.fine("name 33 to 126", module(section(0, b(2, 33, 126, 0, 255))));
        Expect.fine("long U of a name", module(section(0, b(129, 128, 0, 65))));
        Expect.fault("name of 101", 1, module(section(0, b(M), name(sixtyFour + "x".repeat(37)))));
        Expect.fault("name of 0", 1, module(section(0, b(M, 0))));
        Expect.fault("name with 32", 1, module(section(0, b(M, 3, 65, 32, 65))));
        Expect.fault("name with 127", 1, module(section(0, b(M, 3, 65, 65, 127))));
        Expect.fault("name without bytes enough", 1, module(section(0, b(M, 3, 65, 65))));
        Expect.fault("no name", 1, module(section(0), b(M)));
        Expect.fault("name's U cut", 1, module(section(0, b(129)), b(M)));
        Expect.fault("name's U wrong", 1, module(section(0, b(M, 129, 128, 128, 128, 16, 65))));
        Expect.fault("import's second name", 1, module(PLAIN, section(2, b(1, 1, 65, M, 1, 7, 0, 0))));
        Expect.fault("export's name", 1, module(section(7, b(1, M, 0, 0, 0))));
    }

    private static void signaturesAndImports() {
        Expect.fine("signatures", module(section(1, row(2, signature(b(I, L), b(L)), signature(times(16, I), b())))));
        Expect.fault("not 96", 1, module(section(1, b(1, M, 95, 0, 0))));
        Expect.fault("type 125", 1, module(section(1, b(1, 96, 2, I, M, 125, 0))));
        Expect.fault("type 128", 1, module(section(1, b(1, 96, 0, 1, M, 128))));
        Expect.fault("no result", 1, module(section(1, b(1, 96, 0, 1)), b(M)));
        Expect.fine("imports", module(PLAIN, section(2, row(5, b(1, 65, 1, 65, 0, 0), b(1, 65, 1, 65, 1, 112, 0, 9),
            b(1, 65, 1, 65, 2, 1, 0, 0), b(1, 65, 1, 65, 3, I, 0), b(1, 65, 1, 65, 3, L, 1)))));
        Expect.fault("import 4", 1, module(PLAIN, section(2, b(1, 1, 65, 1, 65, M, 4, 0))));
        Expect.fault("import table 111", 1, module(section(2, b(1, 1, 65, 1, 65, 1, M, 111, 0, 0))));
        Expect.fault("import table 113", 1, module(section(2, b(1, 1, 65, 1, 65, 1, M, 113, 0, 0))));
        Expect.fault("import limits 2", 1, module(section(2, b(1, 1, 65, 1, 65, 2, M, 2, 0, 0))));
        Expect.fault("import global type", 1, module(section(2, b(1, 1, 65, 1, 65, 3, M, 64, 0))));
        Expect.fault("import global change", 1, module(section(2, b(1, 1, 65, 1, 65, 3, I, M, 2))));
        Expect.fault("import cut", 1, module(section(2, b(1, 1, 65, 1, 65)), b(M)));
    }

    private static void tablesAndMemories() {
        Expect.fine("table", module(section(4, b(1, 112, 1, 0, 0))));
        Expect.fine("memory", module(section(5, b(1, 0, 0))));
        Expect.fault("table 113", 1, module(section(4, b(1, M, 113, 0, 0))));
        Expect.fault("table limits 2", 1, module(section(4, b(1, 112, M, 2, 0))));
        Expect.fault("table without most", 1, module(section(4, b(1, 112, 1, 0)), b(M)));
        Expect.fault("memory limits 3", 1, module(section(5, b(1, M, 3, 0))));
        Expect.fault("form before meaning", 1, module(section(4, b(2, 112, 1, 5, 4, M, 111, 0, 0))));
    }

    private static int[] global(int type, int... constant) {
        return module(section(6, b(1, type, 0), constant));
    }

    private static void constants() {
        Expect.fine("S of 5, sign", global(I, 65, 128, 128, 128, 128, 120, 11));
        Expect.fine("S of 5, 127", global(I, 65, 255, 255, 255, 255, 127, 11));
        Expect.fine("S of 5, 7", global(I, 65, 255, 255, 255, 255, 7, 11));
        Expect.fine("S of 1, 64", global(I, 65, 64, 11));
        Expect.fault("S of 5, 8", 1, global(I, 65, M, 255, 255, 255, 255, 8, 11));
        Expect.fault("S of 5, 119", 1, global(I, 65, M, 255, 255, 255, 255, 119, 11));
        Expect.fault("S of 6", 1, global(I, 65, M, 255, 255, 255, 255, 255, 0, 11));
        Expect.fault("S of 6, 128", 1, global(I, 65, M, 255, 255, 255, 255, 128, 0, 11));
        Expect.fault("S cut", 1, cat(global(I, 65, 255), b(M)));
        Expect.fine("L of 10, 0", global(L, 66, 255, 255, 255, 255, 255, 255, 255, 255, 255, 0, 11));
        Expect.fine("L of 10, 127", global(L, 66, 128, 128, 128, 128, 128, 128, 128, 128, 128, 127, 11));
        Expect.fine("L of 9, 63", global(L, 66, 128, 128, 128, 128, 128, 128, 128, 128, 63, 11));
        for (int last : new int[] {1, 63, 64, 126, 128, 255}) {
            Expect.fault("L of 10, " + last, 1,
                global(L, 66, M, 128, 128, 128, 128, 128, 128, 128, 128, 128, last, 11));
        }
        Expect.fault("constant 67", 1, global(I, M, 67, 0, 11));
        Expect.fault("constant of two", 1, global(I, 65, 0, M, 65, 0, 11));
        Expect.fault("constant without 11", 1, cat(global(I, 65, 0), b(M)));
        Expect.fault("constant 35, U", 1, global(I, 35, M, 255, 255, 255, 255, 16, 11));
        Expect.fault("global's type", 1, module(section(6, b(1, M, 125, 0, 65, 0, 11))));
        Expect.fault("global's change", 1, module(section(6, b(1, I, M, 2, 65, 0, 11))));
    }

    private static void exportsAndStart() {
        int[] memory = section(5, b(1, 0, 0));
        Expect.fine("export", module(memory, section(7, b(1, 1, 65, 2, 0))));
        Expect.fault("export 4", 1, module(memory, section(7, b(1, 1, 65, M, 4, 0))));
        Expect.fault("export U", 1, module(memory, section(7, b(1, 1, 65, 2, M, 128, 128, 128, 128, 99))));
        Expect.fault("export cut", 1, module(memory, section(7, b(1, 1, 65, 2)), b(M)));
        Expect.fault("start U", 1, module(section(8, b(M, 128, 128, 128, 128, 99))));
    }

    private static void segments() {
        int[] table = section(4, b(1, 112, 0, 0));
        int[] memory = section(5, b(1, 0, 0));
        Expect.fine("elements", module(table, section(9, b(3, 0, 65, 0, 11, 0, 1, 0, 0, 3, 0, 0))));
        for (int kind : new int[] {2, 4, 5, 112, 255}) {
            Expect.fault("element " + kind, 1, module(table, section(9, b(1, M, kind, 0, 0))));
        }
        Expect.fault("passive, 1", 1, module(table, section(9, b(1, 1, M, 1, 0))));
        Expect.fault("declared, 112", 1, module(table, section(9, b(1, 3, M, 112, 0))));
        Expect.fault("element's function", 1, module(section(9, b(1, 1, 0, 2, 0, M, 128, 128, 128, 128, 16))));
        Expect.fault("element's row cut", 1, module(section(9, b(1, 1, 0, 2, 0)), b(M)));
        Expect.fine("data", module(memory, section(11, b(3, 0, 65, 0, 11, 1, 200, 1, 0, 1, 2, 0, 255))));
        Expect.fault("data 2", 1, module(memory, section(11, b(1, M, 2, 0))));
        Expect.fault("data row above what is there", 1, module(memory, section(11, b(1, 1, M, 3, 0, 0))));
        Expect.fault("data row, bytes behind the section", 1,
            module(memory, section(11, b(1, 1, M, 3, 0, 0)), section(0, b(1, 65))));
        Expect.fault("data without row", 1, module(memory, section(11, b(1, 0, 65, 0, 11)), b(M)));
    }

    private static int[] oneBody(int[]... bytes) {
        return module(PLAIN, section(3, b(1, 0)), section(10, b(1), cat(bytes)));
    }

    private static void bodies() {
        Expect.fine("body", oneBody(sized(b(0, 11))));
        Expect.fine("body, long U", oneBody(b(130, 0, 0, 11)));
        Expect.fault("body above the section", 1, oneBody(b(M, 3, 0, 11)));
        Expect.fault("body above the section, module goes on", 1, cat(oneBody(b(M, 3, 0, 11)), section(0, b(1, 65))));
        Expect.fault("body without bytes", 1, oneBody(b(0, M)));
        Expect.fault("body not closed", 1, oneBody(sized(b(0, 1)), b(M)));
        Expect.fault("body not closed, bytes follow", 1, cat(oneBody(b(2, 0, 1), b(M, 11, 1, 1))));
        Expect.fault("block not closed", 1, oneBody(sized(b(0, 2, 64, 11)), b(M)));
        Expect.fault("more than the closing 11", 1, oneBody(sized(b(0, 11, M, 1, 11))));
        Expect.fault("a second 11", 1, oneBody(sized(b(0, 11, M, 11))));
        Expect.fault("group without type", 1, oneBody(sized(b(1, 1)), b(M)));
        Expect.fault("group's type", 1, oneBody(sized(b(1, 1, M, 64, 11))));
        Expect.fault("group's U", 1, oneBody(sized(b(1, M, 128, 128, 128, 128, 16, I, 11))));
        Expect.fault("groups cut", 1, oneBody(sized(b(2, 1, I)), b(M)));
        Expect.fault("number cut by the body", 1, oneBody(b(3, 0, 65, 128, M, 0, 11)));
    }

    private static void fitting() {
        int[] two = section(3, b(2, 0, 0));
        int[] body = b(2, 0, 11);
        Expect.fault("no bodies", 1, module(PLAIN, two, section(0, b(1, 65)), b(M)));
        Expect.fault("a body too few", 1, module(PLAIN, two, section(10, b(1), body), b(M), section(0, b(1, 65))));
        Expect.fault("a body too many", 1,
            module(PLAIN, two, section(10, b(3), body, body, body), b(M), section(11, b(0))));
        Expect.fault("bodies without functions", 1, module(section(10, b(1), body), b(M)));
        Expect.fault("100 bodies", 1, module(PLAIN, two, section(10, row(100, times(100, body))), b(M)));
        Expect.fault("more than the bodies, and too few", 1, module(PLAIN, two, section(10, b(1), body, b(M, 0))));
        Expect.fine("no functions, no bodies", module(section(3, b(0)), section(10, b(0))));
        Expect.fine("no functions", module(section(3, b(0))));
        int[] data = b(1, 0);
        Expect.fine("told data", module(section(12, b(1)), section(11, b(1), data)));
        Expect.fine("told none", module(section(12, b(0))));
        Expect.fine("not told", module(section(11, b(1), data)));
        Expect.fault("told, not there", 1, module(section(12, b(1)), section(0, b(1, 65)), b(M)));
        Expect.fault("a data too few", 1,
            module(section(12, b(2)), section(11, b(1), data), b(M), section(0, b(1, 65))));
        Expect.fault("a data too many", 1, module(section(12, b(0)), section(11, b(1), data), b(M)));
        Expect.fault("both: data first", 1,
            module(PLAIN, two, section(12, b(0)), section(11, b(1), data), b(M), section(0, b(1, 65))));
    }

    private static boolean isThere(int number) {
        return number <= 5 || number >= 11 && number <= 17 || number == 26 || number == 27
            || number >= 32 && number <= 36 || number == 40 || number == 41 || number >= 44 && number <= 55
            || number >= 58 && number <= 66 || number >= 69 && number <= 90 || number >= 103 && number <= 138
            || number == 167 || number == 172 || number == 173 || number >= 192 && number <= 196 || number == 252;
    }

    private static void instructions() {
        for (int number = 0; number < 256; number++) {
            if (!isThere(number)) {
                Expect.fault("instruction " + number, 1, alone(0, M, number, 0, 0, 0, 11));
            }
        }
        for (int second : new int[] {0, 7, 15, 127}) {
            Expect.fault("instruction 252 " + second, 1, around(b(), b(), NO_LOCALS, 0, 252, M, second, 0, 0, 0, 11));
        }
        Expect.fault("instruction 252 256 + 10", 1, around(b(), b(), NO_LOCALS, 0, 252, M, 138, 2, 0, 0, 11));
        Expect.fine("252 in a long U", around(b(), b(), NO_LOCALS, 0, 252, 138, 128, 0, 0, 0, 11));
        Expect.fault("252 cut", 1, oneBody(sized(b(0, 252)), b(M)));
    }

    private static void instructionNumbers() {
        int[][] zeros = {{17, 1, M, 1}, {63, M, 1}, {64, M, 2}, {252, 8, 0, M, 1}, {252, 10, M, 1, 0},
            {252, 10, 0, M, 1}, {252, 11, M, 128}, {252, 12, 0, M, 1}, {252, 14, M, 1, 0}, {252, 14, 0, M, 4}};
        for (int[] each : zeros) {
            Expect.fault("no zero in " + Arrays.toString(each), 1,
                around(b(), b(), NO_LOCALS, cat(b(0), each, b(11))));
        }
        int[] bad = {M, 255, 255, 255, 255, 16};
        int[] withU = {12, 13, 14, 16, 17, 32, 33, 34, 35, 36, 40, 41, 44, 45, 46, 47, 48, 49, 50, 51, 52, 53, 54, 55,
            58, 59, 60, 61, 62};
        for (int each : withU) {
            Expect.fault("first U of " + each, 1, around(b(), b(), NO_LOCALS, cat(b(0, each), bad, b(0, 0, 11))));
            boolean hasTwo = each == 14 || each >= 40;
            if (hasTwo) {
                Expect.fault("second U of " + each, 1,
                    around(b(), b(), NO_LOCALS, cat(b(0, each, 0), bad, b(0, 0, 11))));
            }
        }
        for (int each : new int[] {8, 9, 12, 13}) {
            Expect.fault("U of 252 " + each, 1, around(b(), b(), NO_LOCALS, cat(b(0, 252, each), bad, b(0, 11))));
        }
        Expect.fault("br_table's label", 1, around(b(), b(), NO_LOCALS, cat(b(0, 14, 2, 0), bad, b(0, 11))));
        for (int each : new int[] {2, 3, 4}) {
            Expect.fault("block type 65 of " + each, 1, alone(0, each, M, 65, 11, 11));
            Expect.fault("block type 0 of " + each, 1, alone(0, each, M, 0, 11, 11));
        }
        Expect.fault("int", 1, alone(0, 65, M, 128, 128, 128, 128, 8, 11));
        Expect.fault("long", 1, alone(0, 66, M, 128, 128, 128, 128, 128, 128, 128, 128, 128, 8, 11));
        Expect.fine("numbers in long form",
            around(b(), b(), NO_LOCALS, 0, 40, 130, 0, 255, 255, 255, 255, 15, 12, 128, 128, 0, 11));
        Expect.fault("memory.init without 12", 1, alone(0, M, 252, 8, 0, 0, 11));
        Expect.fault("data.drop without 12", 1, alone(0, M, 252, 9, 0, 11));
        Expect.fault("data.drop without 12, its U wrong", 1, alone(0, M, 252, 9, 128, 128, 128, 128, 16, 11));
        Expect.fault("form comes before the types", 1, alone(26, 26, M, 6, 11));
    }

    private static void elses() {
        Expect.fine("else", alone(65, 0, 4, 64, 1, 5, 1, 11, 11));
        Expect.fine("else in else", alone(65, 0, 4, 64, 5, 65, 0, 4, 64, 5, 11, 11, 11));
        Expect.fault("else in the body", 1, alone(M, 5, 11));
        Expect.fault("else twice", 1, alone(65, 0, 4, 64, 5, M, 5, 11, 11));
        Expect.fault("else in a block", 1, alone(2, 64, M, 5, 11, 11));
        Expect.fault("else in a loop", 1, alone(3, 64, M, 5, 11, 11));
        Expect.fault("else in a block in an if", 1, alone(65, 0, 4, 64, 2, 64, M, 5, 11, 11, 11));
        Expect.fault("else behind the if", 1, alone(65, 0, 4, 64, 11, M, 5, 11));
    }
}
