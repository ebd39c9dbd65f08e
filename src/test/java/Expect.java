/** Compares what is answered with what is due, and ends the program with 1 if there was a difference. */
final class Expect {
    private static int wrong = 0;
    private static int asked = 0;

    private Expect() {
    }

    static void same(String what, long got, long due) {
        asked++;
        if (got != due) {
            wrong++;
            System.out.println(what + ": answered " + got + ", due is " + due);
        }
    }

    static void feed(ModuleCheck check, int[] bytes) {
        int start = 0;
        for (; start < bytes.length; start += 20) {
            int[] words = new int[5];
            for (int i = 0; i < 20; i++) {
                int each = start + i < bytes.length ? bytes[start + i] : 0;
                words[i / 4] = words[i / 4] << 8 | each;
            }
            same("feed", check.feed(words[0], words[1], words[2], words[3], words[4]), start + 20);
        }
        same("end", check.end(bytes.length) ? 1 : 0, 1);
    }

    static ModuleCheck fine(String what, int[] module) {
        ModuleCheck check = new ModuleCheck();
        feed(check, module);
        same(what + ", check()", check.check(), 0);
        same(what + ", place()", check.place(), -1);
        return check;
    }

    static void fault(String what, int fault, int[] marked) {
        ModuleCheck check = new ModuleCheck();
        feed(check, Mod.withoutMark(marked));
        same(what + ", check()", check.check(), fault);
        same(what + ", place()", check.place(), Mod.placeOfMark(marked));
    }

    /** For a loop over what is right and what is wrong: no fault where there is no mark. */
    static void answer(String what, int fault, int[] marked) {
        if (fault == 0) {
            fine(what, marked);
        } else {
            fault(what, fault, marked);
        }
    }

    static void done(String test) {
        System.out.println(test + ": " + (asked - wrong) + " of " + asked + " answers are as due");
        if (wrong != 0) {
            System.exit(1);
        }
    }
}
