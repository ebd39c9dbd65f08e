import java.util.Arrays;

/** Promise 4, fault 2 in bodies: what each instruction asks of the stack and of the module. */
public final class TypingTest extends Mod {
    private static final int M = MARK;
    private static final int[] INT = {65, 0};
    private static final int[] LONG = {66, 0};

    public static void main(String[] args) {
        plainInstructions();
        accesses();
        memoryAndTable();
        segments();
        withoutMemoryOrTable();
        locals();
        globals();
        calls();
        choices();
        frames();
        branches();
        tables();
        returns();
        unknowns();
        firstOfAll();
        Expect.done("TypingTest");
    }

    private static int[] results(int type) {
        return type == 0 ? b() : b(type);
    }

    private static void fine(String what, int result, int[]... code) {
        Expect.fine(what, around(b(I, L), results(result), b(2, 1, I, 1, L), cat(cat(code), b(11))));
    }

    private static void wrong(String what, int result, int[]... code) {
        Expect.fault(what, 2, around(b(I, L), results(result), b(2, 1, I, 1, L), cat(cat(code), b(11))));
    }

    private static int[] constant(int type) {
        return type == I ? INT : LONG;
    }

    private static int other(int type) {
        return type == I ? L : I;
    }

    /** An instruction that takes so many of a type and leaves one: right, and in every wrong way. */
    private static void plain(int number, int taken, int many, int left) {
        String what = "instruction " + number;
        int[] it = b(M, number);
        int[] one = constant(taken);
        int[] both = many == 1 ? one : cat(one, one);
        fine(what, left, both, b(number));
        wrong(what + ", the other result", other(left), both, b(number, M));
        wrong(what + ", more", left, one, both, b(number, M));
        wrong(what + ", less", left, many == 1 ? b() : one, it);
        wrong(what + ", last of the other type", left, many == 1 ? b() : one, constant(other(taken)), it);
        if (many == 2) {
            wrong(what + ", first of the other type", left, constant(other(taken)), one, it);
        }
    }

    private static void plainInstructions() {
        for (int number = 69; number <= 196; number++) {
            boolean ofLong = number >= 80 && number <= 90 || number >= 121 && number <= 138 || number == 167
                || number >= 194;
            boolean toLong = number >= 121 && number <= 138 || number == 172 || number == 173 || number >= 194;
            boolean ofTwo = number >= 70 && number <= 79 || number >= 81 && number <= 90
                || number >= 106 && number <= 120 || number >= 124 && number <= 138;
            boolean isThere = number <= 90 || number >= 103 && number <= 138 || number == 167 || number == 172
                || number == 173 || number >= 192;
            if (isThere) {
                plain(number, ofLong ? L : I, ofTwo ? 2 : 1, toLong ? L : I);
            }
        }
        fine("int", I, INT);
        fine("long", L, LONG);
        wrong("int for a long", L, INT, b(M));
        wrong("long for an int", I, LONG, b(M));
        fine("nop", 0, b(1, 1));
    }

    private static void accesses() {
        int[] loads = {40, 2, I, 41, 3, L, 44, 0, I, 45, 0, I, 46, 1, I, 47, 1, I, 48, 0, L, 49, 0, L, 50, 1, L, 51, 1,
            L, 52, 2, L, 53, 2, L};
        for (int i = 0; i < loads.length; i += 3) {
            String what = "load " + loads[i];
            fine(what, loads[i + 2], INT, b(loads[i], loads[i + 1], 0));
            fine(what + " by 0", loads[i + 2], INT, b(loads[i], 0, 255, 255, 255, 255, 15));
            wrong(what + ", alignment", loads[i + 2], INT, b(M, loads[i], loads[i + 1] + 1, 0));
            wrong(what + ", high alignment", loads[i + 2], INT, b(M, loads[i], 255, 255, 255, 255, 15, 0));
            wrong(what + ", at a long", loads[i + 2], LONG, b(M, loads[i], 0, 0));
            wrong(what + ", the other type", other(loads[i + 2]), INT, b(loads[i], 0, 0, M));
        }
        int[] stores = {54, 2, I, 55, 3, L, 58, 0, I, 59, 1, I, 60, 0, L, 61, 1, L, 62, 2, L};
        for (int i = 0; i < stores.length; i += 3) {
            String what = "store " + stores[i];
            int[] value = constant(stores[i + 2]);
            fine(what, 0, INT, value, b(stores[i], stores[i + 1], 0));
            wrong(what + ", alignment", 0, INT, value, b(M, stores[i], stores[i + 1] + 1, 0));
            wrong(what + ", the other type", 0, INT, constant(other(stores[i + 2])), b(M, stores[i], 0, 0));
            wrong(what + ", at a long", 0, LONG, value, b(M, stores[i], 0, 0));
            wrong(what + ", no address", 0, value, b(M, stores[i], 0, 0));
            wrong(what + ", leaves nothing", I, INT, value, b(stores[i], 0, 0, M));
        }
    }

    private static void memoryAndTable() {
        fine("memory.size", I, b(63, 0));
        fine("memory.grow", I, INT, b(64, 0));
        wrong("memory.grow by a long", I, LONG, b(M, 64, 0));
        wrong("memory.size leaves", 0, b(63, 0, M));
        int[][] threes = {{252, 8, 2, 0}, {252, 10, 0, 0}, {252, 11, 0}, {252, 12, 1, 0}, {252, 14, 0, 0}};
        for (int[] each : threes) {
            String what = Arrays.toString(each);
            fine(what, 0, INT, INT, INT, each);
            wrong(what + " of two", 0, INT, INT, b(M), each);
            wrong(what + " of four", 0, INT, INT, INT, INT, each, b(M));
            wrong(what + " long first", 0, LONG, INT, INT, b(M), each);
            wrong(what + " long second", 0, INT, LONG, INT, b(M), each);
            wrong(what + " long third", 0, INT, INT, LONG, b(M), each);
        }
    }

    private static void segments() {
        fine("data.drop", 0, b(252, 9, 2));
        wrong("data.drop, not there", 0, b(M, 252, 9, 3));
        wrong("memory.init, not there", 0, INT, INT, INT, b(M, 252, 8, 3, 0));
        fine("elem.drop", 0, b(252, 13, 1));
        wrong("elem.drop, not there", 0, b(M, 252, 13, 2));
        wrong("elem.drop, far off", 0, b(M, 252, 13, 255, 255, 255, 255, 15));
        wrong("table.init, not there", 0, INT, INT, INT, b(M, 252, 12, 2, 0));
        Expect.fine("data.drop and elem.drop without memory and table", bare(252, 9, 0, 252, 13, 0));
        int[] before = module(section(1, row(1, signature(b(), b()))), section(3, b(1, 0)), section(12, b(0)));
        Expect.fault("data.drop where 12 tells none", 2,
            cat(before, section(10, b(1), body(NO_LOCALS, M, 252, 9, 0, 11))));
        Expect.fault("memory.init where 12 tells none", 2,
            cat(before, section(10, b(1), body(NO_LOCALS, 0, M, 252, 8, 0, 0, 11))));
    }

    /** No table and no memory, but a passive data and a passive element segment. */
    private static int[] bare(int... code) {
        return module(section(1, row(1, signature(b(), b()))), section(3, b(1, 0)), section(9, b(1, 1, 0, 0)),
            section(12, b(1)), section(10, b(1), body(NO_LOCALS, cat(code, b(11)))), section(11, b(1, 1, 0)));
    }

    private static void withoutMemoryOrTable() {
        int[][] all = {{63, 0}, {64, 0}, {252, 8, 0, 0}, {252, 10, 0, 0}, {252, 11, 0}, {252, 12, 0, 0}, {252, 14, 0, 0},
            {17, 0, 0}};
        for (int[] each : all) {
            Expect.fault(Arrays.toString(each) + " of nothing", 2, bare(cat(b(0, M), each)));
        }
        for (int number = 40; number <= 62; number++) {
            if (number != 42 && number != 43 && number != 56 && number != 57) {
                Expect.fault("access " + number + " of nothing", 2, bare(0, M, number, 0, 0));
            }
        }
    }

    private static void locals() {
        int[] types = {I, L, I, L};
        for (int i = 0; i < 4; i++) {
            fine("local.get " + i, types[i], b(32, i));
            wrong("local.get " + i + ", other", other(types[i]), b(32, i, M));
            fine("local.set " + i, 0, constant(types[i]), b(33, i));
            wrong("local.set " + i + ", other", 0, constant(other(types[i])), b(M, 33, i));
            fine("local.tee " + i, types[i], constant(types[i]), b(34, i));
            wrong("local.tee " + i + ", other", 0, constant(other(types[i])), b(M, 34, i));
            wrong("local.tee " + i + " leaves", 0, constant(types[i]), b(34, i, M));
            wrong("local.set " + i + " takes", 0, b(M, 33, i));
        }
        for (int number = 32; number <= 34; number++) {
            wrong("local 4 of " + number, 0, b(0, M, number, 4));
            wrong("far local of " + number, 0, b(0, M, number, 255, 255, 255, 255, 15));
        }
    }

    private static void globals() {
        int[] types = {I, I, L, L};
        for (int i = 0; i < 4; i++) {
            fine("global.get " + i, types[i], b(35, i));
            wrong("global.get " + i + ", other", other(types[i]), b(35, i, M));
        }
        fine("global.set 1", 0, INT, b(36, 1));
        fine("global.set 3", 0, LONG, b(36, 3));
        wrong("global.set 0", 0, INT, b(M, 36, 0));
        wrong("global.set 2", 0, LONG, b(M, 36, 2));
        wrong("global.set 1, long", 0, LONG, b(M, 36, 1));
        wrong("global.set 3, int", 0, INT, b(M, 36, 3));
        wrong("global.get 4", 0, b(M, 35, 4, 26));
        wrong("global.set 4", 0, b(0, M, 36, 4));
        wrong("far global", 0, b(M, 35, 255, 255, 255, 255, 15, 26));
        Expect.fine("an imported global that can be changed", module(section(1, row(1, signature(b(), b()))),
            section(2, row(1, b(1, 97, 1, 98, 3, L, 1))), section(3, b(1, 0)),
            section(10, b(1), body(NO_LOCALS, 66, 0, 36, 0, 11))));
    }

    private static void calls() {
        fine("call", L, INT, LONG, b(16, 0));
        fine("call of nothing", 0, b(16, 1));
        fine("call of itself", I, INT, LONG, b(16, 2));
        wrong("call, the other way round", L, LONG, INT, b(M, 16, 0));
        wrong("call, one short", L, LONG, b(M, 16, 0));
        wrong("call, what it leaves", I, INT, LONG, b(16, 0, M));
        wrong("call 3", 0, b(0, M, 16, 3));
        wrong("far call", 0, b(0, M, 16, 255, 255, 255, 255, 15));
        fine("call_indirect", L, INT, LONG, INT, b(17, 0, 0));
        wrong("call_indirect, no int", L, INT, LONG, b(M, 17, 0, 0));
        wrong("call_indirect, a long", L, INT, LONG, LONG, b(M, 17, 0, 0));
        wrong("call_indirect, other parameters", L, LONG, INT, INT, b(M, 17, 0, 0));
        wrong("call_indirect 3", 0, b(0, M, 17, 3, 0));
        wrong("far call_indirect", 0, b(0, M, 17, 255, 255, 255, 255, 15, 0));
    }

    private static void choices() {
        fine("drop int", 0, INT, b(26));
        fine("drop long", 0, LONG, b(26));
        wrong("drop nothing", 0, b(M, 26));
        fine("select int", I, INT, INT, INT, b(27));
        fine("select long", L, LONG, LONG, INT, b(27));
        wrong("select of two types", I, LONG, INT, INT, b(M, 27));
        wrong("select of two types, other way", L, INT, LONG, INT, b(M, 27));
        wrong("select by a long", I, INT, INT, LONG, b(M, 27));
        wrong("select of one", I, INT, INT, b(M, 27));
        wrong("select long as int", I, LONG, LONG, INT, b(27, M));
    }

    private static void frames() {
        fine("block of int", I, b(2, I), INT, b(11));
        fine("loop of long", L, b(3, L), LONG, b(11));
        wrong("block of int, long", I, b(2, I), LONG, b(M, 11));
        wrong("block of int, nothing", I, b(2, I, M, 11));
        wrong("block of nothing, int", 0, b(2, 64), INT, b(M, 11));
        wrong("block of int, two", I, b(2, I), INT, INT, b(M, 11));
        wrong("block takes nothing from outside", I, INT, b(2, 64, M, 26, 11));
        wrong("block's result is not taken", 0, b(2, I), INT, b(11, M));
        fine("if else of int", I, INT, b(4, I), INT, b(5), INT, b(11));
        wrong("if of a long", 0, LONG, b(M, 4, 64, 11));
        wrong("if of nothing", 0, b(M, 4, 64, 11));
        wrong("if of int without else", I, INT, b(4, I), INT, b(M, 11));
        wrong("if of int without else, unreachable", I, INT, b(4, I, 0, M, 11));
        fine("if without else", 0, INT, b(4, 64, 11));
        wrong("at else nothing", I, INT, b(4, I, M, 5), INT, b(11));
        wrong("at else a long", I, INT, b(4, I), LONG, b(M, 5), INT, b(11));
        wrong("at else two", I, INT, b(4, I), INT, INT, b(M, 5), INT, b(11));
        wrong("behind else nothing", I, INT, b(4, I), INT, b(5, M, 11));
        wrong("else is known again", I, INT, b(4, I, 0, 5, M, 26), INT, b(11));
        fine("else of nothing", 0, INT, b(4, 64, 5, 1, 11));
        wrong("body's result", I, b(M));
        wrong("body's result is another", I, LONG, b(M));
        wrong("body leaves", 0, INT, b(M));
    }

    private static void branches() {
        fine("br of the body", I, INT, b(12, 0));
        wrong("br of the body, long", I, LONG, b(M, 12, 0));
        wrong("br of the body, nothing", I, b(M, 12, 0));
        fine("br may leave more behind", I, LONG, INT, b(12, 0));
        wrong("br 1 in the body", 0, b(M, 12, 1));
        wrong("far br", 0, b(M, 12, 255, 255, 255, 255, 15));
        wrong("br not there, unreachable", 0, b(0, M, 12, 1));
        fine("br out of a block", L, b(2, I), LONG, b(12, 1, 11, 26), LONG);
        fine("br of a block", I, b(2, I), INT, b(12, 0, 11));
        wrong("br of a block, long", I, b(2, I), LONG, b(M, 12, 0, 11));
        fine("br of a loop takes nothing", I, b(3, I, 12, 0, 11));
        fine("br of a loop, something behind", I, b(3, I), INT, b(12, 0, 11));
        fine("br_if", 0, INT, b(13, 0));
        fine("br_if keeps", I, INT, INT, b(13, 0));
        wrong("br_if by a long", 0, LONG, b(M, 13, 0));
        wrong("br_if without an int", I, INT, b(M, 13, 0));
        wrong("br_if of another type", I, LONG, INT, b(M, 13, 0));
        wrong("br_if not there", 0, INT, b(M, 13, 1));
        fine("br_if of a loop", 0, b(3, 64), INT, b(13, 0, 11));
        wrong("br_if goes on", I, INT, INT, b(13, 0, 26, M));
        fine("br_if leaves the type that is told", I, b(0, 13, 0));
        wrong("br_if in the unknown leaves a known type", I, b(0, 13, 0, M, 167));
        fine("br of an if", I, INT, b(4, I), INT, b(12, 0, 5), INT, b(12, 0, 11));
    }

    private static void tables() {
        fine("br_table", 0, INT, b(14, 2, 0, 0, 0));
        fine("br_table of none", I, INT, INT, b(14, 0, 0));
        wrong("br_table by a long", 0, LONG, b(M, 14, 0, 0));
        wrong("br_table of nothing", 0, b(M, 14, 0, 0));
        wrong("br_table, another type", I, LONG, INT, b(M, 14, 0, 0));
        wrong("br_table, label 1", 0, INT, b(M, 14, 1, 1, 0));
        wrong("br_table, last label 1", 0, INT, b(M, 14, 1, 0, 1));
        wrong("br_table, far label", 0, INT, b(M, 14, 1, 255, 255, 255, 255, 15, 0));
        fine("br_table, same types", I, b(2, I), INT, INT, b(14, 1, 0, 1, 11));
        wrong("br_table, two types", I, b(2, L), INT, INT, b(M, 14, 1, 0, 1, 11, 26), INT);
        wrong("br_table, nothing and int", I, b(2, 64), INT, INT, b(M, 14, 1, 0, 1, 11), INT);
        wrong("br_table, two types, unreachable", I, b(2, L, 0, M, 14, 1, 0, 1, 11, 26), INT);
        wrong("br_table, the middle one", I, b(2, L, 2, I, 0, M, 14, 2, 0, 1, 0, 11, 26), LONG, b(11, 26), INT);
        fine("br_table behind one of more labels", 0, b(2, 64, 2, 64), INT, b(14, 2, 0, 1, 2, 11, 11), INT,
            b(14, 0, 0));
        fine("br_table of a loop and a block", 0, b(3, I, 2, 64), INT, b(14, 1, 0, 1, 11), INT, b(11, 26));
    }

    private static void returns() {
        fine("return", I, INT, b(15));
        fine("return out of blocks", I, b(2, L, 3, 64), INT, b(15, 11), LONG, b(11, 26), INT);
        wrong("return of a long", I, LONG, b(M, 15));
        wrong("return of nothing", I, b(M, 15));
        fine("return leaves more behind", 0, INT, LONG, b(15));
        wrong("return takes the function's, not the block's", I, b(2, L), LONG, b(M, 15, 11, 26), INT);
    }

    private static void unknowns() {
        int[][] ends = {{0}, {12, 0}, {65, 0, 14, 0, 0}, {15}};
        for (int[] end : ends) {
            String what = Arrays.toString(end);
            fine("behind " + what, 0, end);
            fine("any type behind " + what, 0, end, b(106, 26, 124, 26, 27, 26));
            fine("known again behind " + what, 0, end, INT, b(26));
            wrong("known type behind " + what, 0, end, INT, b(M, 80, 26));
            wrong("left behind " + what, 0, end, INT, b(M));
            wrong("left by an unknown behind " + what, 0, end, b(106, M));
            fine("what stood before " + what + " is gone", 0, INT, LONG, end);
        }
        fine("unreachable for a result", I, b(0));
        fine("select of unknowns is unknown", I, b(0, 27));
        fine("select of unknowns is unknown, long", L, b(0, 27));
        fine("two selects", L, b(0, 27), INT, b(27));
        fine("select of an unknown and a long", L, b(0), LONG, INT, b(27));
        wrong("select of an unknown and a long is long", I, b(0), LONG, INT, b(27, M));
        wrong("select of a long and an unknown is long", I, b(0, 27), LONG, INT, b(27, M));
        fine("first is unknown by select", I, b(0, 27), INT, INT, b(27));
        wrong("select's int", 0, b(0), LONG, b(M, 27));
        wrong("unknown ends with the frame", 0, b(2, 64, 0, 11, M, 26));
        wrong("a frame in the unknown is known", 0, b(0, 2, 64, M, 26, 11));
        fine("a frame's result in the unknown", I, b(0, 2, I), INT, b(11));
        wrong("one too many in the unknown", I, b(0), INT, INT, b(M));
        fine("tee in the unknown", I, b(0, 34, 0));
        wrong("tee in the unknown leaves a type", L, b(0, 34, 0, M));
        fine("end of a block that is unknown", L, b(2, L, 0, 11));
    }

    private static void firstOfAll() {
        wrong("first of two", 0, b(M, 26, 26));
        wrong("in the first body that is wrong", 0, INT, b(26, 1, M, 26, 106, 80));
        Expect.fault("second body", 2, module(section(1, row(1, signature(b(), b()))), section(3, b(3, 0, 0, 0)),
            section(10, b(3), body(NO_LOCALS, 1, 11), body(NO_LOCALS, 65, 0, M, 11), body(NO_LOCALS, 26, 11))));
        Expect.fine("each body has its own locals", module(
            section(1, row(2, signature(b(I), b()), signature(b(L), b()))), section(3, b(2, 0, 1)),
            section(10, b(2), body(b(1, 1, L), 65, 0, 33, 0, 66, 0, 33, 1, 11),
                body(b(1, 1, I), 66, 0, 33, 0, 65, 0, 33, 1, 11))));
        int[] deep = cat(times(2400, 65, 0), times(2400, 26));
        fine("a high stack", 0, deep);
        wrong("a high stack, one short", 0, deep, b(M, 26));
    }
}
