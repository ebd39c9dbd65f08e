import java.util.Random;

/** Random calls with random bytes and broken modules, always the same ones: no call throws, and answers fit together. */
public final class RandomTest extends Mod {
    private static final Random RANDOM = new Random(20260);
    private static final int[] USUAL = {0, 1, 2, 3, 4, 5, 11, 12, 13, 14, 15, 16, 17, 26, 27, 32, 33, 34, 35, 36, 40, 54,
        63, 64, 65, 66, 80, 96, 106, 112, 124, 126, 127, 128, 167, 252, 255};

    public static void main(String[] args) {
        int[][] modules = {HEADER, alone(65, 0, 4, 64, 1, 5, 12, 1, 11, 11),
            around(b(I, L), b(L), b(2, 1, I, 3, L), 32, 1, 2, 126, 66, 5, 65, 0, 14, 1, 0, 1, 11, 124, 11),
            around(b(), b(), NO_LOCALS, 0, 252, 8, 2, 0, 252, 12, 1, 0, 40, 2, 0, 17, 0, 0, 36, 3, 11),
            module(section(1, row(2, signature(b(), b()), signature(b(I), b(L)))),
                section(2, row(4, name("m"), name("f"), b(0, 0), name("m"), name("t"), b(1, 112, 1, 1, 2), name("m"),
                    name("g"), b(3, L, 0), name("m"), name("n"), b(2, 0, 1))),
                section(6, b(1, L, 1, 35, 0, 11)), section(7, b(2), name("one"), b(0, 0), name("two"), b(3, 1)),
                section(8, b(0)), section(9, b(1, 0, 65, 0, 11, 2, 0, 0)), section(12, b(1)),
                section(11, b(1, 0, 65, 0, 11, 3, 1, 2, 3)))};
        for (int[] module : modules) {
            Expect.fine("unbroken", module);
        }
        for (int run = 0; run < 4000; run++) {
            brokenModules(modules);
        }
        for (int run = 0; run < 200; run++) {
            anyCalls();
        }
        Expect.done("RandomTest");
    }

    private static int[] broken(int[] module) {
        int[] bytes = module.clone();
        int changes = 1 + RANDOM.nextInt(3);
        for (int i = 0; i < changes && bytes.length > 0; i++) {
            int at = RANDOM.nextInt(bytes.length);
            int value = RANDOM.nextBoolean() ? USUAL[RANDOM.nextInt(USUAL.length)] : RANDOM.nextInt(256);
            int[] before = java.util.Arrays.copyOf(bytes, at);
            int kind = RANDOM.nextInt(8);
            int skipped = kind == 0 ? 0 : 1;
            int[] behind = java.util.Arrays.copyOfRange(bytes, at + skipped, bytes.length);
            int[] middle = kind == 1 ? b() : b(value);
            bytes = kind == 2 && i > 0 ? before : cat(before, middle, behind);
        }
        return bytes;
    }

    private static void brokenModules(int[][] modules) {
        ModuleCheck check = new ModuleCheck();
        for (int i = 0; i < 12; i++) {
            int[] bytes = broken(modules[RANDOM.nextInt(modules.length)]);
            Expect.feed(check, bytes);
            int before = check.count(1);
            int fault = check.check();
            int place = check.place();
            boolean isKnown = fault == 0 || fault == 1 || fault == 2 || fault == 4;
            Expect.same("fault is known", isKnown ? 1 : 0, 1);
            boolean isInside = fault == 0 ? place == -1 : place >= 0 && place <= bytes.length;
            Expect.same("place " + place + " fits", isInside ? 1 : 0, 1);
            if (fault != 0) {
                Expect.same("a fault changes nothing", check.count(1), before);
            }
            look(check);
        }
    }

    private static void look(ModuleCheck check) {
        int functions = Math.max(0, check.count(3));
        for (int f = -1; f <= functions; f++) {
            boolean isThere = f >= 0 && f < functions;
            int codes = check.instructions(f);
            Expect.same("instructions and locals", codes >= 0 ? 1 : 0, check.locals(f) >= 0 ? 1 : 0);
            Expect.same("instructions and count", codes > 0 ? 1 : 0, isThere ? 1 : 0);
            Expect.same("last code", check.code(f, codes - 1), isThere ? 11 : -1);
            Expect.same("behind the last code", check.code(f, codes), -1);
        }
    }

    private static int anyNumber() {
        switch (RANDOM.nextInt(4)) {
            case 0:
                return RANDOM.nextInt();
            case 1:
                return RANDOM.nextInt(70) - 3;
            case 2:
                return RANDOM.nextBoolean() ? Integer.MIN_VALUE : Integer.MAX_VALUE;
            default:
                return 0x0061736D;
        }
    }

    private static void anyCalls() {
        ModuleCheck check = new ModuleCheck();
        for (int call = 0; call < 4000; call++) {
            switch (RANDOM.nextInt(12)) {
                case 0:
                    check.check();
                    break;
                case 1:
                    check.end(anyNumber());
                    break;
                case 2:
                    check.count(anyNumber());
                    break;
                case 3:
                    check.code(anyNumber(), anyNumber());
                    break;
                case 4:
                    check.instructions(anyNumber());
                    break;
                case 5:
                    check.locals(anyNumber());
                    break;
                case 6:
                    check.place();
                    break;
                default:
                    check.feed(0x0061736D, 0x01000000, anyNumber(), anyNumber(), anyNumber());
                    break;
            }
        }
    }
}
