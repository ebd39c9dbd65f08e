/** Promises 6 (count), 7 (instructions), 8 (code) and 9 (locals), and what a faulty module leaves of them. */
public final class AnswersTest extends Mod {
    private static final int[] COUNTED = {1, 2, 3, 4, 5, 6, 7, 9, 11};

    public static void main(String[] args) {
        counts();
        countsWithImports();
        codes();
        longerCodes();
        locals();
        kept();
        mostFunctions();
        manyModules();
        Expect.done("AnswersTest");
    }

    private static void counted(String what, ModuleCheck check, int... due) {
        for (int i = 0; i < COUNTED.length; i++) {
            Expect.same(what + ", count(" + COUNTED[i] + ")", check.count(COUNTED[i]), due[i]);
        }
        int[] others = {Integer.MIN_VALUE, -1, 0, 8, 10, 12, 13, 100, Integer.MAX_VALUE};
        for (int other : others) {
            Expect.same(what + ", count(" + other + ")", check.count(other), -1);
        }
    }

    private static void counts() {
        counted("header", Expect.fine("header", HEADER), 0, 0, 0, 0, 0, 0, 0, 0, 0);
        counted("around", Expect.fine("around", around(b(), b(), NO_LOCALS, 11)), 3, 2, 1, 1, 1, 4, 0, 2, 3);
        counted("data without 12", Expect.fine("data", module(section(11, row(2, times(2, 1, 0))))),
            0, 0, 0, 0, 0, 0, 0, 0, 2);
        counted("exports", Expect.fine("exports", module(section(5, b(1, 0, 0)),
            section(7, b(2, 1, 65, 2, 0, 1, 66, 2, 0)))), 0, 0, 0, 0, 1, 0, 2, 0, 0);
    }

    private static void countsWithImports() {
        int[] module = module(section(1, row(1, signature(b(), b()))),
            section(2, row(5, b(1, 65, 1, 65, 0, 0), b(1, 65, 1, 66, 1, 112, 0, 0), b(1, 65, 1, 67, 2, 0, 0),
                b(1, 65, 1, 68, 3, I, 0), b(1, 65, 1, 69, 3, L, 1))),
            section(3, b(1, 0)), section(6, b(1, I, 0, 65, 0, 11)), section(10, b(1, 2, 0, 11)));
        counted("imports", Expect.fine("imports", module), 1, 5, 1, 0, 0, 1, 0, 0, 0);
    }

    private static void sameCodes(ModuleCheck check, int f, int... due) {
        Expect.same("instructions(" + f + ")", check.instructions(f), due.length);
        for (int i = 0; i < due.length; i++) {
            Expect.same("code(" + f + ", " + i + ")", check.code(f, i), due[i]);
        }
        Expect.same("code(" + f + ", -1)", check.code(f, -1), -1);
        Expect.same("code(" + f + ", behind)", check.code(f, due.length), -1);
        Expect.same("code(" + f + ", far behind)", check.code(f, Integer.MAX_VALUE), -1);
    }

    private static void codes() {
        ModuleCheck check = Expect.fine("codes", module(section(1, row(1, signature(b(), b()))),
            section(2, row(1, b(1, 65, 1, 65, 0, 0))), section(3, b(3, 0, 0, 0)),
            section(10, b(3), body(NO_LOCALS, 11), body(NO_LOCALS, 65, 11, 4, 64, 1, 5, 12, 1, 11, 15, 11),
                body(NO_LOCALS, 65, 128, 0, 14, 1, 0, 0, 1, 11))));
        sameCodes(check, 0, 11);
        sameCodes(check, 1, 65, 4, 1, 5, 12, 11, 15, 11);
        sameCodes(check, 2, 65, 14, 1, 11);
        Expect.same("instructions(3)", check.instructions(3), -1);
        Expect.same("code(3, 0)", check.code(3, 0), -1);
        Expect.same("locals(3)", check.locals(3), -1);
    }

    private static void longerCodes() {
        int[] code = cat(b(0, 252, 8, 0, 0, 252, 9, 0, 252, 10, 0, 0, 252, 11, 0, 252, 12, 0, 0, 252, 13, 0),
            b(252, 142, 0, 0, 0, 196, 26, 11));
        ModuleCheck check = Expect.fine("longer codes", around(b(), b(), NO_LOCALS, code));
        sameCodes(check, 0, 0, 264, 265, 266, 267, 268, 269, 270, 196, 26, 11);
    }

    private static void locals() {
        Expect.same("no locals", Expect.fine("none", around(b(), b(), NO_LOCALS, 11)).locals(0), 0);
        Expect.same("parameters", Expect.fine("two", around(b(I, L), b(), NO_LOCALS, 11)).locals(0), 2);
        int[] groups = b(3, 5, I, 0, L, 7, L);
        Expect.same("groups", Expect.fine("groups", around(b(), b(), groups, 11)).locals(0), 12);
        Expect.same("both", Expect.fine("both", around(b(I, L, L), b(), groups, 11)).locals(0), 15);
        int[] most = b(1, 64, I);
        Expect.same("most", Expect.fine("most", around(times(16, I), b(), most, 11)).locals(0), 80);
    }

    private static void kept() {
        ModuleCheck check = Expect.fine("first", around(b(I), b(), b(1, 1, L), 1, 1, 11));
        int[][] faulty = {b(), module(b(13)), around(b(), b(), NO_LOCALS, 26, 11), alone(1, 26, 11),
            module(section(1, row(65, times(65, signature(b(), b())))))};
        for (int[] each : faulty) {
            Expect.feed(check, each);
            Expect.same("a fault", check.check() != 0 ? 1 : 0, 1);
            counted("kept", check, 3, 2, 1, 1, 1, 4, 0, 2, 3);
            sameCodes(check, 0, 1, 1, 11);
            Expect.same("kept locals", check.locals(0), 2);
        }
        Expect.feed(check, alone(11));
        sameCodes(check, 0, 1, 1, 11);
        Expect.same("next", check.check(), 0);
        counted("next", check, 1, 0, 1, 0, 0, 0, 0, 0, 0);
        sameCodes(check, 0, 11);
        Expect.same("next locals", check.locals(0), 0);
        Expect.feed(check, HEADER);
        Expect.same("empty module", check.check(), 0);
        Expect.same("no functions left", check.instructions(0), -1);
        Expect.same("no locals left", check.locals(0), -1);
        Expect.same("no codes left", check.code(0, 0), -1);
        ModuleCheck other = Expect.fine("fault first", alone(11));
        Expect.same("an object of its own", other.instructions(0), 1);
    }

    private static void mostFunctions() {
        int[] bodies = b();
        for (int f = 0; f < 64; f++) {
            bodies = cat(bodies, body(b(1, f, I), cat(times(f, 1), b(11))));
        }
        ModuleCheck check = Expect.fine("64 functions", module(section(1, row(1, signature(b(), b()))),
            section(3, row(64, times(64, 0))), section(10, row(64, bodies))));
        for (int f = 0; f < 64; f++) {
            Expect.same("instructions(" + f + ")", check.instructions(f), f + 1);
            Expect.same("code(" + f + ", last)", check.code(f, f), 11);
            Expect.same("code(" + f + ", behind)", check.code(f, f + 1), -1);
            Expect.same("locals(" + f + ")", check.locals(f), f);
        }
        Expect.same("instructions(64)", check.instructions(64), -1);
        int[] most = cat(times(9900, 1), b(11));
        ModuleCheck large = Expect.fine("a large body", alone(most));
        Expect.same("instructions of a large body", large.instructions(0), 9901);
        Expect.same("code in a large body", large.code(0, 9900), 11);
    }

    /** More instructions in all than one tray can hold; the promised 512 calls do not get so far. */
    private static void manyModules() {
        ModuleCheck check = new ModuleCheck();
        for (int i = 1; i <= 25; i++) {
            Expect.feed(check, alone(cat(times(900 + i, 1), b(0, 11))));
            Expect.same("module " + i, check.check(), 0);
            Expect.same("instructions of module " + i, check.instructions(0), 902 + i);
            Expect.same("unreachable of module " + i, check.code(0, 900 + i), 0);
            Expect.same("end of module " + i, check.code(0, 901 + i), 11);
        }
    }
}
