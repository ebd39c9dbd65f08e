/** The sentences of the document that name a boundary, in its order: what lies just inside of it, and just outside. */
public final class BoundaryTest extends Mod {
    private static final int M = MARK;
    private static final int[] NONE = signature(b(), b());
    private static final int[] PLAIN = section(1, row(1, NONE));
    private static final int[] HIGHEST = {255, 255, 255, 255, 15};

    public static void main(String[] args) {
        unsignedNumbers();
        unsignedValues();
        signedNumbers();
        signedNumbersInBodies();
        names();
        types();
        emptyRows();
        emptySections();
        ends();
        otherSections();
        startInOrder();
        kindsOfImportsAndExports();
        constants();
        bodiesAndData();
        longerInstructions();
        labelRows();
        localsAndParameters();
        depthOfBlocks();
        ordersAcrossSections();
        exportedKinds();
        exportedNames();
        limitsOfImports();
        framesAreKnownAgain();
        deepLabels();
        nothingIsLeftOfTheModuleBefore();
        faultsLeaveNothingBehind();
        bytesInAll();
        Expect.done("BoundaryTest");
    }

    private static int[] told(int... number) {
        return module(section(12, number));
    }

    /* "U: a number from 0 to 4294967295 in groups of 7 bits .. at most 5 bytes, the fifth at most 15." */
    private static void unsignedNumbers() {
        int[][] zeros = {{0}, {128, 0}, {128, 128, 0}, {128, 128, 128, 0}, {128, 128, 128, 128, 0}};
        for (int[] zero : zeros) {
            Expect.fine("zero of " + zero.length + " bytes", told(zero));
        }
        Expect.fault("zero of 6 bytes", 1, told(cat(b(M), times(5, 128), b(0))));
        for (int fifth : new int[] {16, 31, 64, 112, 127, 128, 143, 255}) {
            Expect.fault("fifth byte " + fifth, 1, told(M, 128, 128, 128, 128, fifth));
        }
        for (int fifth : new int[] {1, 8, 15}) {
            Expect.fault("fifth byte " + fifth + ": so many data are not there", 1,
                cat(told(128, 128, 128, 128, fifth), b(M)));
        }
        for (int i = 1; i <= 4; i++) {
            Expect.fault("a U that ends behind " + i, 1, cat(told(times(i, 128)), b(M)));
        }
        Expect.fine("a section of 127 bytes", module(section(0, b(1, 65), times(125, 7))));
        Expect.fine("a section of 128 bytes", module(section(0, b(1, 65), times(126, 7))));
        Expect.fault("a section of 127 bytes, 126 there", 1, module(b(0, M, 127, 1, 65), times(124, 7)));
    }

    private static int[] limits(int[] least, int[] most) {
        return module(section(4, b(1, 112, M, 1), least, most));
    }

    /** What a U tells can be seen where a table's most is below its least. */
    private static void unsignedValues() {
        long[] steps = {1, 127, 128, 16383, 16384, 65535, 65536, 65537, 2097151, 2097152, 268435455L, 268435456L,
            2147483647L, 2147483648L, 4294967294L, 4294967295L};
        for (long step : steps) {
            Expect.fine(step + " and " + step, withoutMark(limits(u(step), u(step))));
            Expect.fine(step - 1 + " and " + step, withoutMark(limits(u(step - 1), u(step))));
            Expect.fault(step + " and one less", 2, limits(u(step), u(step - 1)));
        }
        Expect.fault("highest and none", 2, limits(HIGHEST, u(0)));
        Expect.fault("one, long, and none", 2, limits(b(129, 128, 128, 128, 0), u(0)));
    }

    private static int[] global(int type, int[]... constant) {
        return module(section(6, b(1, type, 0), cat(constant), b(11)));
    }

    /* "S: .. at most 5 bytes, the fifth 0 .. 7 or 120 .. 127. L: a long, at most 10 bytes, the tenth 0 or 127." */
    private static void signedNumbers() {
        for (int last = 0; last < 256; last++) {
            boolean isOfInt = last <= 7 || last >= 120 && last <= 127;
            if (isOfInt) {
                Expect.fine("S, fifth " + last, global(I, b(65), times(4, 129), b(last)));
            } else {
                Expect.fault("S, fifth " + last, 1, global(I, b(65, M), times(4, 129), b(last)));
            }
            if (last == 0 || last == 127) {
                Expect.fine("L, tenth " + last, global(L, b(66), times(9, 255), b(last)));
            } else {
                Expect.fault("L, tenth " + last, 1, global(L, b(66, M), times(9, 255), b(last)));
            }
        }
        for (int last : new int[] {0, 1, 63, 64, 126, 127}) {
            for (int more = 0; more < 4; more++) {
                Expect.fine("S, last " + last, global(I, b(65), times(more, 128), b(last)));
            }
            for (int more = 0; more < 9; more++) {
                Expect.fine("L, last " + last, global(L, b(66), times(more, 255), b(last)));
            }
        }
        Expect.fault("S that the section ends", 1, cat(module(section(6, b(1, I, 0, 65, 128, 128))), b(M)));
        Expect.fault("L that the section ends", 1, cat(module(section(6, b(1, L, 0, 66), times(9, 128))), b(M)));
    }

    private static void signedNumbersInBodies() {
        for (int last : new int[] {0, 7, 120, 127}) {
            Expect.fine("i32.const, fifth " + last, alone(65, 255, 255, 255, 255, last, 26, 11));
        }
        for (int last : new int[] {8, 63, 64, 119, 128, 255}) {
            Expect.fault("i32.const, fifth " + last, 1, alone(65, M, 255, 255, 255, 255, last, 26, 11));
        }
        for (int last : new int[] {0, 127}) {
            Expect.fine("i64.const, tenth " + last, alone(cat(b(66), times(9, 128), b(last, 26, 11))));
        }
        for (int last : new int[] {1, 64, 126, 128, 255}) {
            Expect.fault("i64.const, tenth " + last, 1, alone(cat(b(66, M), times(9, 128), b(last, 26, 11))));
        }
        Expect.fine("i32.const 127", alone(65, 127, 26, 11));
        Expect.fine("i64.const 127", alone(66, 127, 26, 11));
    }

    /* "NAME: U (1 .. 100), and as many bytes 33 .. 126." */
    private static void names() {
        for (int sign = 0; sign < 256; sign++) {
            if (sign >= 33 && sign <= 126) {
                Expect.fine("sign " + sign, module(section(0, b(2, 65, sign))));
            } else {
                Expect.fault("sign " + sign, 1, module(section(0, b(M, 2, 65, sign))));
                Expect.fault("first sign " + sign, 1, module(section(0, b(M, 2, sign, 65))));
            }
        }
        int[] rest = times(120, 65);
        Expect.fine("a name of 1", module(section(0, b(1), rest)));
        Expect.fine("a name of 100", module(section(0, b(100), rest)));
        Expect.fault("a name of 0", 1, module(section(0, b(M, 0), rest)));
        Expect.fault("a name of 101", 1, module(section(0, b(M, 101), rest)));
        Expect.fault("a name of 128", 1, module(section(0, b(M, 128, 1), rest)));
        Expect.fault("the longest name", 1, module(section(0, b(M), HIGHEST, rest)));
        Expect.fault("a name of 100, 99 there", 1, module(section(0, b(M, 100), times(99, 65))));
        Expect.fine("a name of 41 outside of imports and exports", module(section(0, b(41), rest)));
        for (int many : new int[] {40, 41, 100}) {
            int[] name = cat(u(many), times(many, 65));
            int fault = many > 40 ? 4 : 0;
            int[] mark = fault == 0 ? b() : b(M);
            Expect.answer("first name of " + many, fault,
                module(PLAIN, section(2, b(1), mark, name, b(1, 65, 0, 0))));
            Expect.answer("second name of " + many, fault,
                module(PLAIN, section(2, b(1, 1, 65), mark, name, b(0, 0))));
            Expect.answer("exported name of " + many, fault,
                module(section(5, b(1, 0, 0)), section(7, b(1), mark, name, b(2, 0))));
        }
    }

    /* "TYPE: 127 (int) or 126 (long).", "BLOCK TYPE: 64 (nothing), or TYPE." and "LIMITS: 0 and U .. or 1 and two U." */
    private static void types() {
        for (int type = 0; type < 256; type++) {
            boolean isType = type == I || type == L;
            int fault = isType ? 0 : 1;
            int[] mark = isType ? b() : b(M);
            Expect.answer("parameter " + type, fault, module(section(1, b(1, 96, 1), mark, b(type, 0))));
            Expect.answer("result " + type, fault, module(section(1, b(1, 96, 0, 1), mark, b(type))));
            Expect.answer("imported global " + type, fault,
                module(section(2, b(1, 1, 65, 1, 65, 3), mark, b(type, 0))));
            Expect.answer("local " + type, fault,
                module(PLAIN, section(3, b(1, 0)), section(10, b(1), sized(b(1, 1), mark, b(type, 11)))));
            boolean isBlockType = isType || type == 64;
            Expect.answer("block " + type, isBlockType ? 0 : 1,
                alone(cat(b(0, 2), isBlockType ? b() : b(M), b(type, 0, 11, 0, 11))));
            boolean isFlag = type <= 1;
            int[] flagMark = isFlag ? b() : b(M);
            int flagFault = isFlag ? 0 : 1;
            Expect.answer("limits " + type, flagFault, module(section(5, b(1), flagMark, b(type, 0), times(type & 1, 0))));
            Expect.answer("change " + type, flagFault, module(section(6, b(1, I), flagMark, b(type, 65, 0, 11))));
            Expect.answer("data " + type, flagFault,
                module(section(5, b(1, 0, 0)), section(11, b(1), flagMark, b(type), type == 0 ? b(65, 0, 11, 0) : b(0))));
        }
    }

    /* "ROW of x: U, and as many x.": none at all. */
    private static void emptyRows() {
        ModuleCheck check = Expect.fine("no items anywhere", module(section(1, b(0)), section(2, b(0)), section(3, b(0)),
            section(4, b(0)), section(5, b(0)), section(6, b(0)), section(7, b(0)), section(9, b(0)), section(12, b(0)),
            section(10, b(0)), section(11, b(0))));
        for (int what : new int[] {1, 2, 3, 4, 5, 6, 7, 9, 11}) {
            Expect.same("no items, count(" + what + ")", check.count(what), 0);
        }
        for (int what : new int[] {0, 8, 10, 12}) {
            Expect.same("no number, count(" + what + ")", check.count(what), -1);
        }
        Expect.fine("no functions in segments", module(section(4, b(1, 112, 0, 0)),
            section(9, b(3, 0, 65, 0, 11, 0, 1, 0, 0, 3, 0, 0))));
        Expect.fine("no bytes in data", module(section(5, b(1, 0, 0)), section(11, b(2, 0, 65, 0, 11, 0, 1, 0))));
        Expect.fine("no labels", alone(65, 0, 14, 0, 0, 11));
    }

    /** A section of no bytes at all has none for its first item. */
    private static void emptySections() {
        for (int section = 0; section <= 12; section++) {
            Expect.fault("empty section " + section, 1, module(section(section), b(M)));
            Expect.fault("empty section " + section + ", another behind", 1,
                module(section(section), b(M), section(0, b(1, 65))));
            Expect.fault("section " + section + " without a size", 1, module(b(section, M)));
            Expect.fault("section " + section + " of a byte that is not there", 1, module(b(section, M, 1)));
            Expect.fault("section " + section + ", the highest size", 1, module(b(section, M), HIGHEST));
        }
    }

    /* ".. or that its section, body or the module has no more bytes for (then where they end)" */
    private static void ends() {
        int[] whole = around(b(I, L), b(L), b(1, 2, I), 65, 0, 4, 64, 5, 11, 252, 13, 1, 66, 127, 11);
        for (int i = 0; i < whole.length; i++) {
            ModuleCheck check = new ModuleCheck();
            Expect.feed(check, java.util.Arrays.copyOf(whole, i));
            Expect.same("cut at " + i, check.check(), i == sectionsEnd(whole, i) ? checkOfSections(i, whole) : 1);
        }
        Expect.fine("not cut", whole);
        int[] code = {65, 128, 1, 4, 127, 66, 0, 167, 5, 65, 1, 11, 26, 252, 13, 0, 11};
        for (int i = 0; i < code.length; i++) {
            int[] cut = java.util.Arrays.copyOf(code, i);
            Expect.fault("a body cut at " + i, 1, module(PLAIN, section(3, b(1, 0)), section(9, b(1, 1, 0, 0)),
                section(10, b(1), sized(b(0), cut), b(M))));
        }
    }

    /** The last place up to i where a section of the module ends. */
    private static int sectionsEnd(int[] module, int i) {
        int end = 8;
        while (end < module.length && end + 2 + module[end + 1] <= i) {
            end += 2 + module[end + 1];
        }
        return end;
    }

    /** Between its sections the module around a function is whole, or only section 10 or 11 is missing. */
    private static int checkOfSections(int i, int[] module) {
        boolean hasFunctions = false;
        for (int at = 8; at < i; at += 2 + module[at + 1]) {
            hasFunctions |= module[at] == 3;
        }
        return hasFunctions ? 1 : 0;
    }

    /* "Section 0 .. may stand anywhere, any number of times; the others at most once" */
    private static void otherSections() {
        int[] other = section(0, b(1, 65));
        Expect.fine("section 0 a hundred times", module(times(100, other)));
        Expect.fine("section 0 around each", module(other, PLAIN, other, other, section(3, b(0)), other,
            section(12, b(0)), other, section(10, b(0)), other, section(11, b(0)), other));
        int[] order = {1, 2, 3, 4, 5, 6, 7, 9, 12, 10, 11};
        for (int each : order) {
            Expect.fault(each + " twice, section 0 between", 1,
                module(section(each, b(0)), other, b(M), section(each, b(0))));
        }
        for (int section = 13; section < 256; section++) {
            Expect.fault("section " + section, 1, module(other, b(M, section, 1, 0)));
        }
    }

    /* ".. in the order 1 2 3 4 5 6 7 8 9 12 10 11": 8, which is no row. */
    private static void startInOrder() {
        int[] before = module(PLAIN, section(2, b(1, 1, 97, 1, 98, 0, 0)));
        int[] start = section(8, b(0));
        for (int each : new int[] {3, 4, 5, 6, 7}) {
            Expect.fine("the start behind " + each, cat(before, section(each, b(0)), start));
            Expect.fault(each + " behind the start", 1, cat(before, start, b(M), section(each, b(0))));
        }
        for (int each : new int[] {9, 12, 10, 11}) {
            Expect.fine(each + " behind the start", cat(before, start, section(each, b(0))));
            Expect.fault("the start behind " + each, 1, cat(before, section(each, b(0)), b(M), start));
        }
        Expect.fault("1 behind the start", 1, cat(before, start, b(M), PLAIN));
        Expect.fault("the start twice", 1, cat(before, start, section(0, b(1, 65)), b(M), start));
    }

    /* "0 U .., 1 112 LIMITS .., 2 LIMITS .. or 3 TYPE and 0 or 1" and "0 .. 3 (as imports), U" */
    private static void kindsOfImportsAndExports() {
        for (int kind = 4; kind < 256; kind++) {
            Expect.fault("import of kind " + kind, 1, module(PLAIN, section(2, b(1, 1, 97, 1, 98, M, kind, 0, 0))));
            Expect.fault("export of kind " + kind, 1, module(PLAIN, section(7, b(1, 1, 97, M, kind, 0))));
        }
        for (int type = 0; type < 256; type++) {
            int fault = type == 112 ? 0 : 1;
            int[] mark = fault == 0 ? b() : b(M);
            Expect.answer("imported table " + type, fault, module(section(2, b(1, 1, 97, 1, 98, 1), mark, b(type, 0, 0))));
            Expect.answer("table " + type, fault, module(section(4, b(1), mark, b(type, 0, 0))));
            int[] signatureMark = type == 96 ? b() : b(M);
            Expect.answer("signature " + type, type == 96 ? 0 : 1,
                module(section(1, b(1), signatureMark, b(type, 0, 0))));
        }
    }

    /* "CONSTANT: one of 65 S, 66 L, 35 U, and 11." */
    private static void constants() {
        int[] imports = section(2, b(1, 1, 97, 1, 98, 3, I, 0));
        for (int first = 0; first < 256; first++) {
            if (first == 65 || first == 35) {
                Expect.fine("constant " + first, module(imports, section(6, b(1, I, 0, first, 0, 11))));
            } else if (first == 66) {
                Expect.fine("constant 66", module(imports, section(6, b(1, L, 0, first, 0, 11))));
            } else {
                Expect.fault("constant " + first, 1, module(imports, section(6, b(1, I, 0, M, first, 0, 11))));
            }
            if (first != 11) {
                Expect.fault("closed by " + first, 1, module(imports, section(6, b(1, I, 0, 65, 0, M, first))));
                Expect.fault("35 closed by " + first, 1, module(imports, section(6, b(1, I, 0, 35, 0, M, first))));
            }
        }
        Expect.fault("11 alone", 1, module(imports, section(6, b(1, I, 0, M, 11))));
        Expect.fault("a wrong constant, rightly closed, of a passive row", 1,
            module(section(9, b(1, 0, M, 1, 0, 11, 0))));
    }

    /* "There are as many bodies as section 3 has numbers, and as many data as section 12 tells, if it is there" */
    private static void bodiesAndData() {
        Expect.fine("no bodies without 3", module(section(10, b(0))));
        Expect.fine("no numbers without 10", module(section(3, b(0))));
        Expect.fine("12 of none without 11", module(section(12, b(0))));
        Expect.fine("12 of none and 11 of none", module(section(12, b(0)), section(11, b(0))));
        Expect.fine("11 of two without 12", module(section(11, b(2, 1, 0, 1, 0))));
        int[] other = section(0, b(1, 65));
        for (int numbers = 0; numbers <= 3; numbers++) {
            for (int bodies = 0; bodies <= 3; bodies++) {
                int[] mark = numbers == bodies ? b() : b(M);
                Expect.answer(numbers + " numbers, " + bodies + " bodies", numbers == bodies ? 0 : 1, module(PLAIN,
                    section(3, row(numbers, times(numbers, 0))), section(10, row(bodies, times(bodies, 2, 0, 11))),
                    mark, other));
                Expect.answer(numbers + " told, " + bodies + " data", numbers == bodies ? 0 : 1, module(
                    section(12, b(numbers)), section(11, row(bodies, times(bodies, 1, 0))), mark, other));
            }
        }
        Expect.fault("32 told, 31 there", 1, module(section(12, b(32)), section(11, row(31, times(31, 1, 0))), b(M)));
        Expect.fine("32 told, 32 there", module(section(12, b(32)), section(11, row(32, times(32, 1, 0)))));
        Expect.fault("33 told, 33 there", 4,
            module(section(12, b(33)), section(11, row(33, times(32, 1, 0), b(M, 1, 0)))));
        Expect.fault("256 told, none there", 1, module(section(12, b(128, 2)), section(11, b(0)), b(M)));
        Expect.fault("4294967295 told, none there", 1, module(section(12, HIGHEST), section(11, b(0)), b(M)));
    }

    /* "(the number behind 252 is a U)": 8 to 14 are there. */
    private static void longerInstructions() {
        int[][] behind = {{2, 0}, {2}, {0, 0}, {0}, {1, 0}, {1}, {0, 0}};
        for (int second = 0; second < 300; second++) {
            if (second >= 8 && second <= 14) {
                int[] rest = behind[second - 8];
                for (int more = 0; more < 4; more++) {
                    int[] number = more == 0 ? b(second) : cat(b(second + 128), times(more, 128), b(0));
                    ModuleCheck check = Expect.fine("252 " + second + " of " + number.length + " bytes",
                        around(b(), b(), NO_LOCALS, cat(b(0, 252), number, rest, b(11))));
                    Expect.same("its number", check.code(0, 1), 256 + second);
                    Expect.same("behind it", check.code(0, 2), 11);
                }
            } else {
                Expect.fault("252 " + second, 1,
                    around(b(), b(), NO_LOCALS, cat(b(0, 252, M), u(second), b(0, 0, 0, 11))));
            }
        }
        Expect.fault("252 4294967295", 1, around(b(), b(), NO_LOCALS, cat(b(0, 252, M), HIGHEST, b(0, 0, 11))));
        Expect.fault("252 and no U", 1, around(b(), b(), NO_LOCALS, 0, 252, M, 138, 128, 128, 128, 16, 0, 0, 11));
    }

    /* ".. a row in an element segment or br_table above 256" */
    private static void labelRows() {
        int[] labels = times(256, 0);
        ModuleCheck check = Expect.fine("256 labels", alone(cat(b(65, 0, 14), row(256, labels), b(0, 1, 1, 11))));
        Expect.same("instructions behind 256 labels", check.instructions(0), 5);
        Expect.same("nop behind 256 labels", check.code(0, 2), 1);
        Expect.fault("the label behind 256 is looked at", 2, alone(cat(b(65, 0, M, 14), row(256, labels), b(1, 11))));
        Expect.fault("the 256th label is looked at", 2,
            alone(cat(b(65, 0, M, 14), row(256, times(255, 0), b(1)), b(0, 11))));
        Expect.fault("the label behind 256 is read", 1,
            alone(cat(b(65, 0, 14), row(256, labels), b(M), times(5, 128), b(11))));
        Expect.fault("256 labels, 255 there", 1, module(PLAIN, section(3, b(1, 0)),
            section(10, b(1), sized(b(0, 65, 0, 14), u(256), times(255, 0)), b(M))));
        Expect.fault("257 labels, none there", 4, module(PLAIN, section(3, b(1, 0)),
            section(10, b(1), sized(b(0, 65, 0, 14, M), u(257)))));
        int[] imports = section(2, b(1, 1, 97, 1, 98, 0, 0));
        ModuleCheck elements = Expect.fine("256 functions in a segment",
            module(PLAIN, imports, section(9, b(2, 1, 0), row(256, labels), b(3, 0, 1, 0))));
        Expect.same("segments behind 256 functions", elements.count(9), 2);
        Expect.fault("the 256th function is looked at", 2,
            module(PLAIN, imports, section(9, b(1, 1, 0), row(256, times(255, 0), b(M, 1)))));
        Expect.fault("257 functions, declared", 4, module(PLAIN, imports, section(9, b(1, 3, 0, M), row(257, labels))));
    }

    /* ".. a group with which a body has more than 64 locals besides its parameters" */
    private static void localsAndParameters() {
        int[] sixteen = times(16, L);
        ModuleCheck check = Expect.fine("80 locals", around(sixteen, b(), b(2, 63, I, 1, L), 32, 79, 33, 0, 11));
        Expect.same("80 locals counted", check.locals(0), 80);
        Expect.fault("local 80 of 80", 2, around(sixteen, b(), b(1, 64, I), M, 32, 80, 26, 11));
        Expect.fault("the last parameter is no group's", 2, around(sixteen, b(), b(1, 64, I), 32, 15, M, 69, 26, 11));
        Expect.fine("the first of a group", around(sixteen, b(), b(1, 64, I), 32, 16, 69, 26, 11));
        Expect.fault("a group of 65", 4, around(b(), b(), b(1, M, 65, I), 11));
        Expect.fault("a group of one beyond 64", 4, around(b(), b(), b(2, 64, I, M, 1, I), 11));
        Expect.fine("a group of none behind 64", around(b(), b(), b(2, 64, I, 0, I), 11));
        Expect.fault("two groups that wrap around to none", 4,
            around(b(), b(), cat(b(2, 1, I, M), HIGHEST, b(I)), 11));
        Expect.fault("a group of 2147483648", 4, around(b(), b(), b(1, M, 128, 128, 128, 128, 8, I), 11));
        Expect.fine("a hundred groups of none", around(b(), b(), row(100, times(100, 0, L)), 11));
        Expect.fault("a parameter is no local of the next", 2, module(
            section(1, row(2, signature(b(I, I), b()), NONE)), section(3, b(2, 0, 1)),
            section(10, b(2), body(b(1, 2, I), 32, 3, 26, 11), body(NO_LOCALS, M, 32, 0, 26, 11))));
    }

    /* ".. the 61st block, loop or if in one another (at the instruction)" */
    private static void depthOfBlocks() {
        for (int opener : new int[] {2, 3}) {
            Expect.fine("60 of " + opener, alone(cat(times(60, opener, 64), times(61, 11))));
            Expect.fault("61 of " + opener, 4, alone(cat(times(60, opener, 64), b(M, opener, 64), times(62, 11))));
        }
        Expect.fine("60 of 4", alone(cat(times(60, 65, 0, 4, 64), times(61, 11))));
        Expect.fault("61 of 4", 4, alone(cat(times(60, 65, 0, 4, 64), b(65, 0, M, 4, 64), times(62, 11))));
        Expect.fine("60, an else in the last", alone(cat(times(60, 65, 0, 4, 64), b(5), times(61, 11))));
        Expect.fault("61st behind an else", 4, alone(cat(times(60, 65, 0, 4, 64), b(5, M, 2, 64), times(62, 11))));
        Expect.fine("60 more where 60 are closed", alone(cat(times(60, 2, 64), times(60, 11), times(60, 3, 64),
            times(61, 11))));
        Expect.fine("60 in each of two bodies", module(PLAIN, section(3, b(2, 0, 0)), section(10, b(2),
            body(NO_LOCALS, cat(times(60, 2, 64), times(61, 11))), body(NO_LOCALS, cat(times(60, 2, 64), times(61, 11))))));
    }

    private static int[] imported(int... kindAndRest) {
        return cat(b(1, 97, 1, 98), kindAndRest);
    }

    /** Imports stand first, but a second table or memory among them is told with the tables and memories. */
    private static void ordersAcrossSections() {
        int[] table = imported(1, 112, 0, 0);
        int[] memory = imported(2, 0, 0);
        Expect.fault("table limits before a second imported memory", 2,
            module(section(2, row(2, memory, memory)), section(4, b(1, 112, M, 1, 2, 1))));
        Expect.fault("a function before a second imported table", 2, module(section(2, row(2, table, table)),
            section(3, b(1, M, 0)), section(10, b(1, 2, 0, 11))));
        Expect.fault("a second imported memory before a global", 2,
            module(section(2, row(2, memory, cat(b(M), memory))), section(6, b(1, I, 0, 66, 0, 11))));
        Expect.fault("a second table before imported memories", 2,
            module(section(2, row(3, memory, memory, table)), section(4, b(1, M, 112, 0, 0))));
        Expect.fault("a later import's signature before a second imported table", 2,
            module(section(2, row(3, table, table, imported(0, M, 0)))));
        Expect.fault("data before bodies", 2, module(PLAIN, section(3, b(1, 0)),
            section(10, b(1), body(NO_LOCALS, 26, 11)), section(11, b(1, M, 0, 65, 0, 11, 0))));
    }

    /* "Exports: what is not there (at its U)": each kind has a number of its own. */
    private static void exportedKinds() {
        int[][] made = {section(3, b(1, 0)), section(4, b(1, 112, 0, 0)), section(5, b(1, 0, 0)),
            section(6, b(1, I, 0, 65, 0, 11))};
        int[] body = section(10, b(1), body(NO_LOCALS, 11));
        for (int there = 0; there < 4; there++) {
            for (int kind = 0; kind < 4; kind++) {
                int[] end = there == 0 ? body : b();
                Expect.answer("kind " + kind + " of a module with kind " + there, kind == there ? 0 : 2, module(PLAIN,
                    made[there], section(7, b(1, 1, 65, kind), kind == there ? b() : b(M), b(0)), end));
            }
            int[] end = there == 0 ? body : b();
            Expect.fault("second of kind " + there, 2,
                module(PLAIN, made[there], section(7, b(1, 1, 65, there, M, 1)), end));
        }
        int[] imports = section(2, row(2, imported(3, I, 0), imported(3, L, 1)));
        Expect.fine("the last imported global", module(imports, section(7, b(1, 1, 65, 3, 1))));
        Expect.fault("behind the last imported global", 2, module(imports, section(7, b(1, 1, 65, 3, M, 2))));
    }

    private static int[] exportedTwice(String one, int[] mark, String other) {
        return module(section(5, b(1, 0, 0)),
            section(7, b(3), name(one), b(2, 0), name("between"), b(2, 0), mark, name(other), b(2, 0)));
    }

    /* "a name twice (at the NAME)": twice means every sign of it. */
    private static void exportedNames() {
        String[] names = {"a", "ab", "abc", "~!~", "aaaaaaaa", "x".repeat(39) + "y"};
        for (String name : names) {
            Expect.fault(name + " twice", 2, exportedTwice(name, b(M), name));
            Expect.fine(name + ", another first", exportedTwice(name, b(), "q" + name.substring(1)));
            Expect.fine(name + ", another last",
                exportedTwice(name, b(), name.substring(0, name.length() - 1) + "q"));
        }
        Expect.fine("ba is not ab", exportedTwice("ab", b(), "ba"));
        Expect.fine("aa is not a", exportedTwice("a", b(), "aa"));
        Expect.fine("a is not aa", exportedTwice("aa", b(), "a"));
        Expect.fine("A is not a", exportedTwice("a", b(), "A"));
    }

    /* "the most is below the least, or of a memory one is above 65536" */
    private static void limitsOfImports() {
        int[] high = {129, 128, 4};
        Expect.fine("imported table above 65536", module(section(2, row(1, imported(cat(b(1, 112, 0), high))))));
        Expect.fine("imported table, both above 65536",
            module(section(2, row(1, imported(cat(b(1, 112, 1), high, high))))));
        Expect.fine("imported memory of 65536",
            module(section(2, row(1, imported(2, 1, 128, 128, 4, 128, 128, 4)))));
        Expect.fault("imported memory, least", 2, module(section(2, row(1, imported(cat(b(2, M, 0), high))))));
        Expect.fault("imported memory, most", 2, module(section(2, row(1, imported(cat(b(2, M, 1, 0), high))))));
        Expect.fault("imported memory, most below", 2, module(section(2, row(1, imported(2, M, 1, 1, 0)))));
        Expect.fault("imported table, most below", 2, module(section(2, row(1, imported(1, 112, M, 1, 1, 0)))));
        Expect.fine("none and none", module(section(2, row(1, imported(2, 1, 0, 0)))));
    }

    /* "the stack of a frame is empty at its beginning": known, too, whatever stood at its depth before. */
    private static void framesAreKnownAgain() {
        int[][] ends = {{0}, {12, 0}, {65, 0, 14, 0, 0}, {15}};
        for (int[] end : ends) {
            Expect.fault("a block behind an unknown one", 2,
                alone(cat(b(2, 64), end, b(11, 2, 64, M, 26, 11, 11))));
            Expect.fault("a loop behind an unknown block", 2,
                alone(cat(b(2, 64), end, b(11, 3, 64, M, 26, 11, 11))));
            Expect.fault("a block in an unknown body", 2, alone(cat(end, b(2, 64, M, 26, 11, 11))));
            Expect.fault("a body behind an unknown one", 2, module(PLAIN, section(3, b(2, 0, 0)), section(10, b(2),
                body(NO_LOCALS, cat(end, b(11))), body(NO_LOCALS, M, 26, 11))));
            Expect.fault("an else behind the unknown", 2, alone(cat(b(65, 0, 4, 64), end, b(5, M, 26, 11, 11))));
            Expect.fine("the body around it is unknown still", alone(cat(end, b(2, 64, 11, 26, 26, 11))));
        }
        ModuleCheck check = Expect.fine("unknown to its end", alone(0, 11));
        Expect.feed(check, alone(26, 11));
        Expect.same("the next module is known", check.check(), 2);
        Expect.same("its place", check.place(), length(alone(26, 11)) - 2);
    }

    /* "L counted from the innermost frame 0, must be there" */
    private static void deepLabels() {
        for (int depth = 0; depth <= 60; depth += 20) {
            int[] open = times(depth, 2, 64);
            int[] close = times(depth + 1, 11);
            Expect.fine("label " + depth, alone(cat(open, b(12, depth), close)));
            Expect.fault("label " + (depth + 1), 2, alone(cat(open, b(M, 12, depth + 1), close)));
            Expect.fine("label if " + depth, alone(cat(open, b(65, 0, 13, depth), close)));
            Expect.fault("label if " + (depth + 1), 2, alone(cat(open, b(65, 0, M, 13, depth + 1), close)));
            Expect.fine("label of a table " + depth, alone(cat(open, b(65, 0, 14, 1, depth, 0), close)));
            Expect.fault("label of a table " + (depth + 1), 2,
                alone(cat(open, b(65, 0, M, 14, 1, depth + 1, 0), close)));
        }
        Expect.fault("label 4294967295", 2, alone(cat(b(2, 64, M, 12), HIGHEST, b(11, 11))));
        Expect.fault("label 2147483648", 2, alone(2, 64, M, 12, 128, 128, 128, 128, 8, 11, 11));
    }

    private static void after(String what, int[] before, int[] marked) {
        ModuleCheck check = Expect.fine(what + ", before", before);
        Expect.feed(check, withoutMark(marked));
        int place = placeOfMark(marked);
        Expect.same(what + ", check()", check.check(), place < 0 ? 0 : 2);
        Expect.same(what + ", place()", check.place(), place);
    }

    private static int[] one(int[] parameters, int[] results, int... code) {
        return module(section(1, row(1, signature(parameters, results))), section(3, b(1, 0)),
            section(10, b(1), body(NO_LOCALS, code)));
    }

    /** What the module before had, the next one does not have. */
    private static void nothingIsLeftOfTheModuleBefore() {
        int[] full = around(b(I), b(), NO_LOCALS, 11);
        int[] start = module(section(1, row(1, NONE)), section(8, b(M, 0)));
        after("signatures", full, module(section(3, b(1, M, 0)), section(10, b(1, 2, 0, 11))));
        after("functions", full, start);
        after("exported functions", full, module(section(7, b(1, 1, 65, 0, M, 0))));
        after("table", full, module(section(7, b(1, 1, 65, 1, M, 0))));
        after("memory", full, module(section(7, b(1, 1, 65, 2, M, 0))));
        after("globals", full, module(section(7, b(1, 1, 65, 3, M, 0))));
        after("a table again", full, full);
        after("called functions", full, alone(M, 16, 1, 11));
        after("parameters", one(b(I), b(), 11), one(b(), b(), M, 32, 0, 26, 11));
        after("results", one(b(), b(I), 65, 0, 11), one(b(), b(), 11));
        after("another result", one(b(), b(I), 65, 0, 11), one(b(), b(L), 66, 0, 11));
        after("another parameter", one(b(I), b(I), 32, 0, 11), one(b(L), b(L), 32, 0, 11));
        after("another parameter is wrong", one(b(I), b(I), 32, 0, 11), one(b(L), b(I), 32, 0, M, 11));
        int[] imports = section(2, row(2, imported(3, I, 0), imported(3, I, 0)));
        after("imported globals", module(imports), module(section(6, b(2, I, 0, 65, 0, 11, I, 0, M, 35, 0, 11))));
        after("an imported global", module(imports),
            module(section(2, row(1, imported(3, L, 0))), section(6, b(1, L, 0, 35, 0, 11))));
        after("a global that can be changed", module(section(2, row(1, imported(3, I, 1)))),
            module(section(2, row(1, imported(3, I, 0))), section(6, b(1, I, 0, 35, 0, 11))));
        after("element segments", full, alone(M, 252, 13, 0, 11));
        after("exported names", module(section(5, b(1, 0, 0)), section(7, b(1, 1, 65, 2, 0))),
            module(section(5, b(1, 0, 0)), section(7, b(1, 1, 65, 2, 0))));
        ModuleCheck check = Expect.fine("12 before", full);
        Expect.feed(check, alone(252, 9, 0, 11));
        Expect.same("what 12 told is gone", check.check(), 1);
        Expect.same("what 12 told is gone, place()", check.place(), length(alone(252, 9, 0, 11)) - 4);
    }

    /** A module with a fault leaves nothing for the one behind it either. */
    private static void faultsLeaveNothingBehind() {
        int[] full = around(b(I), b(), b(1, 3, L), 1, 11);
        int[] good = alone(65, 0, 4, 64, 5, 11, 11);
        int[][] faulty = {java.util.Arrays.copyOf(full, full.length - 3), around(b(), b(), NO_LOCALS, 26, 11),
            module(section(6, row(33, times(33, I, 0, 65, 0, 11)))), b(), alone(2, 64, 65, 0, 3, 64, 11),
            alone(cat(times(61, 2, 64), times(62, 11))), cat(full, section(11, b(0)))};
        ModuleCheck check = new ModuleCheck();
        for (int[] each : faulty) {
            Expect.feed(check, each);
            Expect.same("a fault", check.check() > 0 ? 1 : 0, 1);
            Expect.feed(check, good);
            Expect.same("no fault behind it", check.check(), 0);
            Expect.same("no place behind it", check.place(), -1);
            Expect.same("instructions behind it", check.instructions(0), 5);
            Expect.same("locals behind it", check.locals(0), 0);
            Expect.same("globals behind it", check.count(6), 0);
            Expect.same("data behind it", check.count(11), 0);
            Expect.same("a second function behind it", check.instructions(1), -1);
        }
    }

    /* "more than 65536 in all (each feed() counts 20, whatever end() cuts)": what check() has read counts too. */
    private static void bytesInAll() {
        ModuleCheck check = new ModuleCheck();
        for (int i = 0; i < 3276; i++) {
            Expect.same("feed " + i, check.feed(0x0061736D, 0x01000000, 0, 0, 0), 20);
            Expect.same("end " + i, check.end(i % 2 == 0 ? 8 : 0) ? 1 : 0, 1);
            Expect.same("check " + i, check.check(), i % 2);
        }
        Expect.same("feed of the bytes 65521 to 65540", check.feed(0x0061736D, 0x01000000, 0, 0, 0), -1);
        Expect.same("nothing was fed", check.end(1) ? 1 : 0, 0);
        Expect.same("nothing to check", check.check(), 1);
        Expect.same("its place", check.place(), 0);
    }
}
