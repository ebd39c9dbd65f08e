/** Promises 1 (a new object), 2 (feed), 3 (end), 5 (place), and what check() does to the tray. */
public final class FaceTest {
    private static final int[] EMPTY = Mod.HEADER;

    public static void main(String[] args) {
        newObject();
        feedCounts();
        feedOrder();
        feedLimits();
        endCuts();
        placeOfLatest();
        wrongCalls();
        exampleOfReadme();
        Expect.done("FaceTest");
    }

    private static void newObject() {
        ModuleCheck check = new ModuleCheck();
        Expect.same("new place", check.place(), -1);
        for (int what = -2; what < 14; what++) {
            Expect.same("new count", check.count(what), -1);
        }
        Expect.same("new instructions", check.instructions(0), -1);
        Expect.same("new code", check.code(0, 0), -1);
        Expect.same("new locals", check.locals(0), -1);
        Expect.same("new end(0)", check.end(0) ? 1 : 0, 1);
        Expect.same("new end(1)", check.end(1) ? 1 : 0, 0);
        Expect.same("new check", check.check(), 1);
        Expect.same("new place of check", check.place(), 0);
    }

    private static void feedCounts() {
        ModuleCheck check = new ModuleCheck();
        for (int i = 1; i <= 500; i++) {
            Expect.same("feed " + i, check.feed(-1, -1, -1, -1, -1), 20 * i);
        }
    }

    private static void feedOrder() {
        ModuleCheck check = new ModuleCheck();
        // A section 0 whose name has the bytes in their order; only so the module is without a fault.
        check.feed(0x0061736D, 0x01000000, 0x000A0421, 0x22237E80, 0xFF017F64);
        Expect.same("bytes 128 to 255, check", check.check(), 0);
        check.feed(0x0061736D, 0x01000000, 0x00000000, 0, 0);
        check.end(9);
        Expect.same("order of words, check", check.check(), 1);
        Expect.same("order of words, place", check.place(), 9);
        check.feed(0x6D736100, 0x01000000, 0, 0, 0);
        Expect.same("lowest first, check", check.check(), 1);
        Expect.same("lowest first, place", check.place(), 0);
    }

    /** No 512 calls reach these limits, so what stands here is only the document's word. */
    private static void feedLimits() {
        ModuleCheck check = new ModuleCheck();
        for (int i = 1; i <= 800; i++) {
            Expect.same("feed to 16000", check.feed(0, 0, 0, 0, 0), 20 * i);
        }
        Expect.same("feed above 16000", check.feed(0, 0, 0, 0, 0), -1);
        check.end(15981);
        Expect.same("feed above 16000, cut", check.feed(0, 0, 0, 0, 0), -1);
        check.end(15980);
        Expect.same("feed to 16000 again", check.feed(0, 0, 0, 0, 0), 16000);
        check = new ModuleCheck();
        for (int i = 1; i <= 3276; i++) {
            Expect.same("feed to 65520", check.feed(0, 0, 0, 0, 0), 20);
            check.end(0);
        }
        Expect.same("feed above 65536", check.feed(0, 0, 0, 0, 0), -1);
        Expect.same("nothing fed", check.end(1) ? 1 : 0, 0);
    }

    private static void endCuts() {
        ModuleCheck check = new ModuleCheck();
        check.feed(0x0061736D, 0x01000000, 0, 0, 0);
        Expect.same("end(-1)", check.end(-1) ? 1 : 0, 0);
        Expect.same("end(lowest)", check.end(Integer.MIN_VALUE) ? 1 : 0, 0);
        Expect.same("end(21)", check.end(21) ? 1 : 0, 0);
        Expect.same("end(highest)", check.end(Integer.MAX_VALUE) ? 1 : 0, 0);
        Expect.same("end(20)", check.end(20) ? 1 : 0, 1);
        Expect.same("end(9)", check.end(9) ? 1 : 0, 1);
        Expect.same("end(10)", check.end(10) ? 1 : 0, 0);
        Expect.same("end(8)", check.end(8) ? 1 : 0, 1);
        Expect.same("check of the first 8", check.check(), 0);
        Expect.same("empty behind check", check.end(1) ? 1 : 0, 0);
        Expect.same("feed behind check", check.feed(1, 2, 3, 4, 5), 20);
        check.end(3);
        Expect.same("feed behind end", check.feed(1, 2, 3, 4, 5), 23);
        Expect.same("check that fails", check.check(), 1);
        Expect.same("empty behind a fault", check.feed(1, 2, 3, 4, 5), 20);
    }

    private static void placeOfLatest() {
        ModuleCheck check = new ModuleCheck();
        Expect.feed(check, Mod.cat(EMPTY, Mod.b(13)));
        Expect.same("unchecked place", check.place(), -1);
        Expect.same("fault", check.check(), 1);
        Expect.same("its place", check.place(), 8);
        Expect.same("its place again", check.place(), 8);
        Expect.feed(check, EMPTY);
        Expect.same("place before the next check", check.place(), 8);
        Expect.same("no fault", check.check(), 0);
        Expect.same("no place", check.place(), -1);
        Expect.same("empty tray", check.check(), 1);
        Expect.same("place in an empty tray", check.place(), 0);
    }

    private static void wrongCalls() {
        int[] odd = {Integer.MIN_VALUE, -1, 0, 1, 3, 63, 64, 65, 15999, 16000, Integer.MAX_VALUE};
        ModuleCheck check = Expect.fine("one function", Mod.alone(1, 11));
        for (int f : odd) {
            Expect.same("instructions(" + f + ")", check.instructions(f), f == 0 ? 2 : -1);
            Expect.same("locals(" + f + ")", check.locals(f), f == 0 ? 0 : -1);
            Expect.same("count(" + f + ")", check.count(f), f == 1 || f == 3 ? 1 : -1);
            for (int i : odd) {
                int due = f != 0 ? -1 : i == 0 ? 1 : i == 1 ? 11 : -1;
                Expect.same("code(" + f + ", " + i + ")", check.code(f, i), due);
            }
        }
    }

    private static void exampleOfReadme() {
        ModuleCheck modules = new ModuleCheck();
        Expect.same("feed", modules.feed(0x0061736D, 0x01000000, 0x01060160, 0x017F017F, 0x03020100), 20);
        Expect.same("feed again", modules.feed(0x0A090107, 0x00200041, 0x016A0B00, 0, 0), 40);
        Expect.same("end", modules.end(31) ? 1 : 0, 1);
        Expect.same("check", modules.check(), 0);
        Expect.same("place", modules.place(), -1);
        Expect.same("own functions", modules.count(3), 1);
        Expect.same("instructions", modules.instructions(0), 4);
        Expect.same("i32.add", modules.code(0, 2), 106);
        Expect.same("locals", modules.locals(0), 1);
    }
}
