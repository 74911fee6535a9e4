import java.math.BigInteger;

/** For each promise what a reader of the document works out by hand: ordinary inputs, edges, wrong inputs. */
final class PromisesTest {
    private static final Checks CHECKS = new Checks("promises");
    private static final int UNKNOWN = -1, BAD = -2, LATE = -3, FULL = -4, NONE = -9;

    // Two loads that are stored side by side: one tree of two packs.
    private static final String COPY = "V812lA0lA1sB0asB1b";
    // Four of them.
    private static final String COPY4 = "V812lA0lA1lA2lA3sB0asB1bsB2csB3d";
    // Sums that take loads crosswise, and stores of these loads: a kept tree uses what the next one packs.
    private static final String CROSS = "V812lA0lA1lB0lB1+ad+bcsA4esA5fsB4csB5d";
    // Copies from A to B and from B to A that wait for each other if both are packed.
    private static final String CYCLE = "V812lA0sB0alB0lB1sA0csA1dlA1sB1g";
    // The pack of the loads waits for the store into A1, and the sum waits for the loads.
    private static final String WAITING = "V812lA0k5+absA1blA1*aa*eesB0fsB1gsB7c";
    private static final String SIX_STORES = "V812k1sA0asA1asA2asA3asA4asA5a";
    private static final String SIX_COPIES = "V812lA0lA1lA2lA3lA4lA5sB0asB1bsB2csB3dsB4esB5f";
    private static final String SEVEN_STORES = SIX_STORES + "sA6a";

    private static String at = "";

    private static void due(String what, long got, long want) {
        CHECKS.due(at + ": " + what, got, want);
    }

    private static PackLanes block(String text) {
        at = text;
        return Checks.blockOf(text);
    }

    private static void promise1NewObject() {
        at = "1";
        PackLanes x = new PackLanes();
        int[] about = {0, 8, 1, 2, 0, 0, 0, 0, 0, NONE, NONE, 2, 0, 0, 0};
        for (int k = 0; k < about.length; k++) {
            due("about(" + k + ")", x.about(k), about[k]);
        }
        for (int a = 0; a < 16; a++) {
            due("address(" + a + ", 0)", x.address(a, 0), a + 101);
            due("address(" + a + ", 1)", x.address(a, 1), a + 1);
            due("address(" + a + ", 2)", x.address(a, 2), a + 1);
        }
        due("instruction(0, 0)", x.instruction(0, 0), UNKNOWN);
        due("fault()", x.fault(), 0);
        due("undo()", x.undo(), LATE);
        due("again(0)", x.again(0), LATE);
        due("again(1)", x.again(1), LATE);
        due("unsee()", x.unsee(), 0);
        due("seed(1)", x.seed(1), 0);
        due("which()", x.which(), 0);
    }

    private static void promise2Write() {
        at = "2";
        PackLanes x = new PackLanes();
        due("write(-1)", x.write(-1), BAD);
        due("write(256)", x.write(256), BAD);
        due("write(MAX)", x.write(Integer.MAX_VALUE), BAD);
        due("write(MIN)", x.write(Integer.MIN_VALUE), BAD);
        due("about(14)", x.about(14), 0);
        for (int k = 1; k <= 80; k++) {
            due("write", x.write(k == 1 ? 0 : k == 2 ? 255 : 'k'), k);
        }
        due("the 81st", x.write('k'), FULL);
        due("the 81st, out of range", x.write(256), BAD);
        due("about(14)", x.about(14), 80);
        due("fault()", x.fault(), 0);
        due("wipe()", x.wipe(), 80);
        due("write", x.write('V'), 1);
    }

    private static void promise3Wipe() {
        PackLanes x = block(COPY);
        due("wipe()", x.wipe(), 18);
        due("wipe() again", x.wipe(), 0);
        due("about(14)", x.about(14), 0);
        due("fault()", x.fault(), 0);
        due("the block stays", x.about(0), 4);
    }

    private static void fault(String text, int want) {
        PackLanes x = new PackLanes();
        at = "fault of " + text;
        Checks.rewrite(x, text);
        due("fault()", x.fault(), want);
        due("block()", x.block() == LATE ? 1 : 0, want == NONE ? 0 : 1);
    }

    private static void promise4Fault() {
        fault("", 0);
        fault("v", 0);
        fault("V", 1);
        fault("V9", 1);
        fault("V/", 1);
        fault("V8", 2);
        fault("V82", 2);
        fault("V81", 3);
        fault("V813", 3);
        fault("V810", 3);
        fault("V812", NONE);
        fault("V004", NONE);
        fault("V812V", 4);
        fault("V812 ", 4);
        fault("V812\u00ff", 4);
        for (String first : new String[] {"+", "-", "*", "/", "s"}) {
            fault("V812" + first, 4);
            fault("V812k1" + first, 7);
            fault("V812lA0" + first, 8);
        }
        fault("V812l", 5);
        fault("V812lC", 5);
        fault("V812la", 5);
        fault("V812lA", 6);
        fault("V812lB8", 6);
        fault("V812lB7", NONE);
        fault("V812k", 5);
        fault("V812k:", 5);
        fault("V812k9", NONE);
        fault("V812k1+", 7);
        fault("V812k1+b", 7);
        fault("V812k1+`", 7);
        fault("V812k1+a", 8);
        fault("V812k1+ab", 8);
        fault("V812k1+aa", NONE);
        fault("V812k1s@", 7);
        fault("V812k1sA", 8);
        fault("V812k1sA8", 8);
        fault("V812k1sA0", 9);
        fault("V812k1sA0b", 9);
        fault("V812k1sA0a", NONE);
        fault("V812k1sA0aa", 10);
        fault("V812k1sA0asA0b", 13);
        fault("V812k1sA0a+ab", 12);
        fault("V812k1sA0ak2+ac", NONE);
        String sixteen = "V812" + "k0".repeat(16);
        fault(sixteen, NONE);
        fault(sixteen + "k", 36);
        fault(sixteen + "x", 36);
        fault("V812" + "k0".repeat(15) + "+oo", NONE);
        fault("V812" + "k0".repeat(15) + "+op", 36);
        fault("V812" + "k0".repeat(12) + "sA0a".repeat(4), NONE);
    }

    private static void promise5Block() {
        PackLanes x = block(COPY);
        x.start(3, 50);
        x.set(0, 2);
        x.keep(0);
        x.keep(1);
        x.see(4, 4);
        x.seed(77);
        Checks.rewrite(x, "V304k5k6k7x");
        due("block() of a wrong text", x.block(), LATE);
        due("about(0)", x.about(0), 4);
        due("address(3, 0)", x.address(3, 0), 150);
        due("about(1)", x.about(1), 2);
        due("about(12)", x.about(12), 2);
        Checks.rewrite(x, "V304k5k6k7");
        due("block()", x.block(), 3);
        due("about(1)", x.about(1), 3);
        due("about(2)", x.about(2), 0);
        due("about(3)", x.about(3), 4);
        due("address(3, 0)", x.address(3, 0), 104);
        due("about(12)", x.about(12), 0);
        due("undo()", x.undo(), LATE);
        due("again(0)", x.again(0), LATE);
        due("again(1)", x.again(1), LATE);
        due("about(13)", x.about(13), 1);
        due("about(14)", x.about(14), 10);
        due("seed(0)", x.seed(0), 77);
        Checks.rewrite(x, "V812k1+aa+bb+cc+dd+ee+ff+gg+hh+ii");
        due("block()", x.block(), 10);
        Checks.rewrite(x, WAITING);
        due("block()", x.block(), 10);
        due("nothing is left of the former one", x.about(5), 7);
        Checks.rewrite(x, "V812");
        due("block() of none", x.block(), 0);
        due("about(0)", x.about(0), 0);
    }

    private static void about(String text, int... want) {
        PackLanes x = block(text);
        for (int k = 0; k < want.length; k++) {
            due("about(" + k + ")", x.about(k), want[k]);
        }
    }

    private static void promise6About() {
        about(COPY, 4, 8, 1, 2, 4, 2, 2, 15, 1, NONE, NONE, 2, 0, 0, 18);
        about(COPY4, 8, 8, 1, 2, 8, 4, 4, 255, 2, NONE, NONE, 4, 0, 0, 32);
        about(COPY4.replace("V812", "V814"), 8, 8, 1, 4, 8, 2, 2, 255, 1, NONE, NONE, 4, 0, 0, 32);
        about(CROSS, 10, 8, 1, 2, 10, 7, 5, 1023, 2, NONE, NONE, 2);
        about(CYCLE, 8, 8, 1, 2, 8, 6, 2, 0b111100, 1, NONE, NONE, 2);
        about("V502k0k3-ba/ca/cb", 5, 5, 0, 2, 3, 3, 0, 0, 0, 3, 3, 2, 0, 0, 17);
        // With the rows unknown, nothing can be told from the stores.
        about(COPY.replace("V812", "V802"), 4, 8, 0, 2, 4, 2, 2, 15, 1);
        about("V802lA0sB0alA1sB1c", 4, 8, 0, 2, 4, 4, 0, 0, 0);
        about("V812lA0sB0alA1sB1c", 4, 8, 1, 2, 4, 2, 2, 15, 1);
        about("V112lA0sB0alA1sB1c", 4, 1, 1, 2, 4, 4, 0, 0, 0);
        // The products are kept with their loads; the stores of the loads then find them taken.
        about("V812lA0lA1*aa*bbsA4csA5dsB0asB1b", 8, 8, 1, 2, 8, 7, 3, 0b111111, 1);
        // Four lanes pay here, but two pay more.
        String apart = "lA0lA1lA4lA5k1+ae+be+ce+desB0fsB1gsB2hsB3i";
        about("V812" + apart, 13, 8, 1, 2, 12, 8, 6, 0b1111111101111, 2, NONE, NONE, 2);
        about("V814" + apart, 13, 8, 1, 4, 12, 11, 2, 0b1111111100000, 1, NONE, NONE, 2);
        due("about(10) asked first", block("V812k0/aa").about(10), 1);
        PackLanes x = block(COPY);
        due("about(15)", x.about(15), BAD);
        due("about(-1)", x.about(-1), BAD);
        x.start(0, 0);
        x.see(0, 0);
        due("about(12)", x.about(12), 1);
        due("about(13)", x.about(13), 1);
    }

    private static void instructions(String text, int what, int... want) {
        PackLanes x = block(text);
        for (int i = 0; i < want.length; i++) {
            due("instruction(" + i + ", " + what + ")", x.instruction(i, what), want[i]);
        }
    }

    private static void promise7Instruction() {
        String all = "V812lA0k2+ab-ab*ab/absA0c";
        instructions(all, 0, 0, 1, 2, 3, 4, 5, 6);
        instructions(all, 1, NONE, NONE, NONE, NONE, NONE, NONE, NONE);
        instructions(all, 2, NONE, NONE, NONE, NONE, NONE, NONE, NONE);
        instructions(all, 3, 0, 1, 2, 3, 4, 5, 6);
        instructions(all, 4, 0, 0, 2, 2, 2, 2, 4);
        instructions(all, 5, 1, 2, 3, -1, 2, 0, 0);
        instructions(CROSS, 1, 2, 2, 4, 4, 1, 1, 0, 0, 3, 3);
        instructions(CROSS, 2, 0, 1, 0, 1, 0, 1, 0, 1, 0, 1);
        instructions(CROSS, 3, 0, 0, 1, 1, 2, 2, 3, 3, 4, 4);
        instructions(CYCLE, 3, 0, 1, 2, 2, 3, 3, 4, 5);
        instructions(WAITING, 3, 2, 0, 3, 1, 2, 4, 4, 5, 5, 6);
        instructions(CYCLE, 4, 0, 1, 2, 0, 3, 1, 2, 3);
        int wrapped = (int) (43046721L * 43046721L);
        instructions("V812k9*aa*bb*cc*dd", 5, 9, 81, 6561, 43046721, wrapped);
        PackLanes x = block("V812lA0k2/ab-cb");
        x.start(0, -7);
        due("instruction(2, 5)", x.instruction(2, 5), -3);
        due("instruction(3, 5)", x.instruction(3, 5), -5);
        x = block("V812k0k5/ba+bb");
        due("the stopped one", x.instruction(2, 5), 0);
        due("one after it", x.instruction(3, 5), 0);
        due("one before it", x.instruction(1, 5), 5);
        due("instruction(4, 0)", x.instruction(4, 0), UNKNOWN);
        due("instruction(-1, 0)", x.instruction(-1, 0), UNKNOWN);
        due("instruction(16, 9)", x.instruction(16, 9), UNKNOWN);
        due("instruction(0, 6)", x.instruction(0, 6), BAD);
        due("instruction(0, -1)", x.instruction(0, -1), BAD);
    }

    private static void promise8Address() {
        PackLanes x = block("V412lB0+aasA7bk0/ddsA0b");
        due("address(4, 0)", x.address(4, 0), 105);
        due("address(7, 1)", x.address(7, 1), 10);
        due("address(7, 2)", x.address(7, 2), 10);
        due("address(0, 1)", x.address(0, 1), 1);
        due("address(0, 2)", x.address(0, 2), 1);
        x.start(4, -99);
        due("address(4, 0)", x.address(4, 0), 1);
        due("address(7, 0)", x.address(7, 0), 108);
        due("address(7, 1)", x.address(7, 1), -198);
        due("address(7, 2)", x.address(7, 2), -198);
        due("address(16, 0)", x.address(16, 0), UNKNOWN);
        due("address(-1, 9)", x.address(-1, 9), UNKNOWN);
        due("address(0, 3)", x.address(0, 3), BAD);
        due("address(0, -1)", x.address(0, -1), BAD);
        x = block("V802lB7sB7asA0a");
        due("the base counts, known or not", x.instruction(0, 5), 16);
        due("address(0, 1)", x.address(0, 1), 16);
        x = block(WAITING);
        due("address(15, 2)", x.address(15, 2), 6);
        x = block(CYCLE);
        int[] end = {1, 10, 3, 4, 5, 6, 7, 8, 1, 10, 11, 12, 13, 14, 15, 16};
        for (int a = 0; a < 16; a++) {
            due("address(" + a + ", 1)", x.address(a, 1), end[a]);
            due("address(" + a + ", 2)", x.address(a, 2), end[a]);
        }
    }

    private static void depends(PackLanes x, int i, int j, int want) {
        due("depends(" + i + ", " + j + ")", x.depends(i, j), want);
    }

    private static void promise9Depends() {
        PackLanes x = block("V812lA0lA0sA0alA0lA1sA0elB0sB0g");
        depends(x, 0, 0, 0);
        depends(x, 0, 1, 0);
        depends(x, 0, 2, 1);
        depends(x, 2, 0, 0);
        depends(x, 1, 2, 1);
        depends(x, 2, 3, 1);
        depends(x, 1, 3, 1);
        depends(x, 2, 4, 0);
        depends(x, 2, 5, 1);
        depends(x, 2, 6, 0);
        depends(x, 8, 0, UNKNOWN);
        depends(x, 0, 8, UNKNOWN);
        depends(x, -1, 0, UNKNOWN);
        x.set(1, 0);
        depends(x, 2, 6, 1);
        depends(x, 2, 4, 0);
        depends(x, 0, 6, 1);
        x.set(1, 1);
        x.set(0, 0);
        depends(x, 2, 6, 1);
        x.set(0, 1);
        depends(x, 2, 6, 0);
        depends(x, 4, 7, 1);
        // Quotients keep their order, and so do quotients and stores, whatever they work on.
        x = block("V812k1lA0/aasB5b/aalB6*aa");
        depends(x, 2, 3, 1);
        depends(x, 3, 4, 1);
        depends(x, 2, 4, 1);
        depends(x, 2, 5, 0);
        depends(x, 4, 6, 0);
        depends(x, 1, 2, 0);
        depends(x, 1, 4, 1);
    }

    private static void promise10Start() {
        PackLanes x = block(COPY);
        due("start(0, 99)", x.start(0, 99), 101);
        due("start(0, -99)", x.start(0, -99), 199);
        due("start(0, 0)", x.start(0, 0), 1);
        due("start(0, 0)", x.start(0, 0), 100);
        due("start(15, 1)", x.start(15, 1), 116);
        due("about(12)", x.about(12), 5);
        due("start(16, 0)", x.start(16, 0), UNKNOWN);
        due("start(-1, 100)", x.start(-1, 100), UNKNOWN);
        due("start(0, 100)", x.start(0, 100), BAD);
        due("start(0, -100)", x.start(0, -100), BAD);
        due("about(12)", x.about(12), 5);
        due("address(0, 0)", x.address(0, 0), 100);
        due("address(8, 1)", x.address(8, 1), 0);
    }

    private static void promise11Set() {
        PackLanes x = block(COPY4);
        due("set(0, 0)", x.set(0, 0), 8);
        due("set(0, 8)", x.set(0, 8), 0);
        due("set(1, 0)", x.set(1, 0), 1);
        due("set(1, 1)", x.set(1, 1), 0);
        due("set(2, 4)", x.set(2, 4), 2);
        due("about(6)", x.about(6), 2);
        due("set(2, 2)", x.set(2, 2), 4);
        due("about(6)", x.about(6), 4);
        due("about(12)", x.about(12), 6);
        due("set(0, 9)", x.set(0, 9), BAD);
        due("set(0, -1)", x.set(0, -1), BAD);
        due("set(1, 2)", x.set(1, 2), BAD);
        due("set(1, -1)", x.set(1, -1), BAD);
        due("set(2, 3)", x.set(2, 3), BAD);
        due("set(2, 0)", x.set(2, 0), BAD);
        due("set(3, 2)", x.set(3, 2), BAD);
        due("set(-1, 2)", x.set(-1, 2), BAD);
        due("set(MAX, 2)", x.set(Integer.MAX_VALUE, 2), BAD);
        due("about(12)", x.about(12), 6);
        due("about(1)", x.about(1), 8);
    }

    private static void promise12Undo() {
        PackLanes x = block(COPY4);
        due("undo()", x.undo(), LATE);
        x.start(2, 40);
        x.set(2, 4);
        x.set(0, 1);
        x.set(1, 0);
        x.start(2, 41);
        due("undo()", x.undo(), 4);
        due("address(2, 0)", x.address(2, 0), 140);
        due("undo()", x.undo(), 3);
        due("about(2)", x.about(2), 1);
        due("undo()", x.undo(), 2);
        due("about(1)", x.about(1), 8);
        due("about(6)", x.about(6), 2);
        due("undo()", x.undo(), 1);
        due("about(3)", x.about(3), 2);
        due("about(6)", x.about(6), 4);
        due("undo()", x.undo(), 0);
        due("address(2, 0)", x.address(2, 0), 103);
        due("undo()", x.undo(), LATE);
        for (int k = 1; k <= 16; k++) {
            x.start(5, k);
        }
        due("about(12)", x.about(12), 14);
        for (int k = 13; k >= 0; k--) {
            due("undo()", x.undo(), k);
            due("address(5, 0)", x.address(5, 0), 102 + k);
        }
        due("undo() of a forgotten one", x.undo(), LATE);
        due("address(5, 0)", x.address(5, 0), 102);
        x = block(COPY4);
        for (int a = 0; a < 16; a++) {
            x.start(a, -a);
        }
        x.set(0, 0);
        for (int a = 16; a >= 3; a--) {
            due("undo()", x.undo(), a - 3);
            due("about(1)", x.about(1), 8);
            for (int b = 0; b < 16; b++) {
                due("address(" + b + ", 0)", x.address(b, 0), b < a ? 100 - b : b + 101);
            }
        }
        due("undo()", x.undo(), LATE);
    }

    private static void tried(String text, int row, int cell, int want) {
        PackLanes x = block(text);
        due("tried(" + row + ", " + cell + ")", x.tried(row, cell), want);
    }

    private static void promise13Tried() {
        tried(COPY, 1, 0, 102);
        tried(COPY, 1, 1, NONE);
        tried(COPY, 0, 0, NONE);
        tried(COPY, 1, 6, NONE);
        tried(COPY, 1, 7, BAD);
        tried(COPY, 1, -1, BAD);
        tried(COPY, 2, 0, BAD);
        tried(COPY, -1, 0, BAD);
        String four = COPY4.replace("V812", "V814");
        tried(four, 1, 0, 106);
        tried(four, 1, 4, NONE);
        tried(four, 1, 5, BAD);
        // It costs more if a bundle is neither constants nor the same instruction throughout.
        tried("V812k1k2sB0asB1b", 1, 0, 100);
        tried("V812k1sB0asB1a", 1, 0, 100);
        tried("V812lA0sB0asB1a", 1, 0, 100);
        tried("V812lA0k1sB0asB1b", 1, 0, 99);
        tried("V814k1k2k3k4sB0asB1bsB2csB3d", 1, 0, 102);
        tried("V814k1k2lA0k4sB0asB1bsB2csB3d", 1, 0, 99);
        tried("V814lA0sB0asB1asB2asB3a", 1, 0, 102);
        // Operands are exchanged by their kinds, and only of sums and products.
        tried("V812lA0lA1k5k6+ac+dbsA4esA5f", 0, 4, 102);
        tried("V812lA0lA1k5k6*ac*dbsA4esA5f", 0, 4, 102);
        tried("V812lA0lA1k5k6-ac-dbsA4esA5f", 0, 4, 98);
        tried("V812lA0lA1lB0lB1+ac+dbsA4esA5f", 0, 4, 98);
        tried("V814lA0lA1lA2lA3k5+ae+eb+ec+desA4fsA5gsA6hsA7i", 0, 4, 108);
        tried("V812lA0lA1lB0lB1+ac+bdsA4esA5f", 0, 4, 104);
        // Lane 1 has no load to exchange for, so nothing is exchanged.
        tried("V812lA0k1k5k6+ac+dbsA4esA5f", 0, 4, 99);
        tried("V812lA0lA1k5+ac+bcsA4dsA5e", 0, 4, 102);
        tried("V812lA0lA1/aa/bbsA4csA5d", 0, 4, 99);
        // A pack of the tree again costs nothing; the same with lanes exchanged does.
        tried("V812lA0lA1*aa*bbsA4csA5d", 0, 4, 103);
        tried("V812lA0lA1+ab+basA4csA5d", 0, 4, 99);
        tried("V812lA0lA1+ab+basA4csA5dsB7a", 0, 4, 99);
        tried("V812lA0lA1lA2lA3k5*ab*ba-ce-de+fh+gisB0jsB1k", 1, 0, 101);
        tried("V812lA0lA1sA4asA5bsB7a", 0, 4, 101);
        tried("V812lA0lA1sA4asA5bsB7asB5b", 0, 4, 100);
        // The second store depends on the first one.
        tried("V812lA0sA1alA1sA2c", 0, 1, NONE);
        tried("V812lA0lA1sB0asA6blA6sB1e", 1, 0, 99);
        // The least store into a cell is taken, whatever comes later.
        tried("V812lA0lA1k1sB0asB1bsB0c", 1, 0, 102);
        tried("V812lA0lA1k1sB0csB1bsB0a", 1, 0, 99);
        // Nothing counts as kept, and it need not be schedulable.
        tried(CROSS, 1, 4, 100);
        tried(CROSS, 0, 4, 101);
        tried(CYCLE, 1, 0, 102);
    }

    private static void judge(PackLanes x, int n, long row, int want) {
        due("judge(" + n + ", " + row + ")", x.judge(n, row), want);
    }

    private static void promise14Judge() {
        PackLanes x = block(CROSS);
        judge(x, 0, 0, BAD);
        judge(x, 4, 60007, BAD);
        judge(x, -1, 60007, BAD);
        judge(x, 1, -1, BAD);
        judge(x, 1, 100000, BAD);
        judge(x, 2, 10000000000L, BAD);
        judge(x, 3, 1000000000000000L, BAD);
        judge(x, 3, Long.MAX_VALUE, BAD);
        judge(x, 3, Long.MIN_VALUE, BAD);
        judge(x, 1, 60007, NONE);
        judge(x, 1, 60008, 0);
        judge(x, 1, 60107, 0);
        judge(x, 2, 60007, 0);
        judge(x, 1, 7, 0);
        for (int d = 0; d < 10; d += d == 0 ? 7 : 1) {
            judge(x, 1, 10000L * d, 0);
        }
        judge(x, 2, 4000440006L, NONE);
        judge(x, 2, 4000440001L, 1);
        judge(x, 1, 40400, 0);
        judge(x, 1, 40000, 0);
        judge(x, 1, 40010, 0);
        judge(x, 1, 41009, 0);
        judge(x, 1, 50001, NONE);
        judge(x, 1, 50000, 0);
        judge(x, 1, 50002, 0);
        judge(x, 1, 51000, 0);
        judge(x, 1, 50901, NONE);
        judge(x, 3, 100045000060010L, NONE);
        judge(x, 3, 100025000060010L, 1);
        judge(x, 3, 100031000260007L, 0);
        judge(x, 1, 10102, 0);
        judge(x, 2, 2000060007L, NONE);
        judge(x, 1, 20002, 0);
        judge(x, 1, 20100, 0);
        judge(x, 1, 30008, NONE);
        judge(x, 1, 30009, 0);
        judge(x, 1, 30100, 0);
        judge(x, 2, 3000440007L, 1);
        judge(x, 3, 200003000440007L, 2);
        due("about(1)", x.about(1), 8);
        due("about(2)", x.about(2), 1);
        due("about(3)", x.about(3), 2);
        due("about(5)", x.about(5), 7);
        due("about(12)", x.about(12), 0);
        x = block("V812lA0sB0alA1sB1c");
        judge(x, 2, 3000160002L, 1);
        judge(x, 3, 300016000430000L, NONE);
        judge(x, 3, 300010010260002L, 1);
        judge(x, 2, 3000140102L, NONE);
        judge(x, 3, 300012000140102L, NONE);
        judge(x, 2, 2000040102L, NONE);
        judge(x, 1, 40102, 0);
    }

    private static void promise15See() {
        PackLanes x = block(COPY);
        due("see(16, 0)", x.see(16, 0), UNKNOWN);
        due("see(-1, 0)", x.see(-1, 0), UNKNOWN);
        for (int k = 1; k <= 6; k++) {
            due("see", x.see(15, k == 1 ? Integer.MIN_VALUE : Integer.MAX_VALUE), k);
        }
        due("the seventh", x.see(0, 0), FULL);
        due("the seventh, of no address", x.see(16, 0), UNKNOWN);
        due("about(13)", x.about(13), 6);
    }

    private static void promise16Unsee() {
        PackLanes x = block(COPY);
        due("unsee()", x.unsee(), 0);
        x.see(3, 1000);
        x.see(3, 1000);
        due("which()", x.which(), 0);
        due("unsee()", x.unsee(), 2);
        due("unsee()", x.unsee(), 0);
        due("about(13)", x.about(13), 0);
        due("which()", x.which(), 15);
        due("see", x.see(0, 0), 1);
    }

    private static void which(PackLanes x, int address, int v, int want) {
        x.unsee();
        x.see(address, v);
        due("which() if " + address + " contained " + v, x.which(), want);
    }

    private static void promise17Which() {
        PackLanes x = block("V812lA0lA1+absA2c");
        due("which()", x.which(), 15);
        which(x, 2, 2, 1);
        which(x, 2, 1, 2);
        which(x, 2, 0, 4);
        which(x, 2, 3, 8);
        x.see(3, 4);
        due("which() with another true one", x.which(), 8);
        x.see(3, 5);
        due("which() with a false one", x.which(), 0);
        which(x, 2, 3, 8);
        x.start(2, 50);
        due("which() in another state", x.which(), 0);
        which(x, 2, 50, 8);
        // A quotient by 0 that does nothing does not stop the run.
        x = block("V812k0k4/basA0c");
        which(x, 0, 0, 4);
        which(x, 0, 1, 11);
        // The run with something else left out stops where the divisor is then 0.
        x = block("V812k2k4/basA0bsA1c");
        which(x, 0, 1, 9);
        which(x, 1, 2, 25);
        which(x, 1, 0, 6);
        x = block("V812" + "k1".repeat(16));
        due("which()", x.which(), 65535);
    }

    private static void share(PackLanes x, int instruction, int over, int under) {
        due("share(" + instruction + ", true)", x.share(instruction, true), over);
        due("share(" + instruction + ", false)", x.share(instruction, false), under);
    }

    private static void promise18Share() {
        PackLanes x = block(COPY);
        share(x, 2, 1, 1);
        share(x, 3, 1, 1);
        share(x, 0, LATE, LATE);
        share(x, 4, UNKNOWN, UNKNOWN);
        share(x, -1, UNKNOWN, UNKNOWN);
        x.set(2, 4);
        share(x, 2, 0, 1);
        // Either neighbour will do for the middle one.
        x = block("V812lA0lA1lA2sB0asB1bsB2c");
        share(x, 3, 1, 3);
        share(x, 4, 4, 3);
        share(x, 5, 1, 3);
        // The last store only takes a value out of a pack.
        x = block("V812lA0lA1*aa*bbsA4csA5dsB7a");
        share(x, 4, 7, 6);
        share(x, 5, 7, 6);
        share(x, 6, -1, 3);
        // An omitted store leaves its cell to the next one.
        x = block("V812lA0lA1k1sB0csB1bsB0a");
        share(x, 3, -2, 3);
        share(x, 4, 1, 3);
        share(x, 5, 1, 3);
        // Nor does anything depend on something else by it.
        x = block("V812lA0sA1alA1sB0asB1c");
        share(x, 1, -2, 3);
        share(x, 3, 1, 3);
        share(x, 4, 1, 3);
        x = block(SIX_STORES);
        share(x, 6, 0, 1);
        x = block(SIX_COPIES);
        int sum = 0;
        for (int i = 6; i < 12; i++) {
            sum += x.share(i, true) * (720 / x.share(i, false));
        }
        due("the shares together, times 720", sum, 6 * 720);
        x = block(SEVEN_STORES);
        share(x, 7, LATE, LATE);
        share(x, 8, UNKNOWN, UNKNOWN);
    }

    private static void chance(PackLanes x, int v, int tenths, int over, int under) {
        due("chance(" + v + ", " + tenths + ", true)", x.chance(v, tenths, true), over);
        due("chance(" + v + ", " + tenths + ", false)", x.chance(v, tenths, false), under);
    }

    private static void promise19Chance() {
        PackLanes x = block(COPY);
        chance(x, 1, 5, 1, 4);
        chance(x, 2, 5, 1, 4);
        chance(x, 3, 5, 0, 1);
        chance(x, 0, 5, 1, 1);
        chance(x, 2, 0, 1, 1);
        chance(x, 2, 10, 0, 1);
        chance(x, 2, 2, 16, 25);
        chance(x, 2, 1, 81, 100);
        chance(x, 99, 3, 0, 1);
        chance(x, 100, 3, BAD, BAD);
        chance(x, -1, 3, BAD, BAD);
        chance(x, 0, 11, BAD, BAD);
        chance(x, 0, -1, BAD, BAD);
        x.set(2, 4);
        chance(x, 1, 5, 0, 1);
        x = block("V812lA0lA1lA2sB0asB1bsB2c");
        chance(x, 1, 5, 3, 8);
        chance(x, 1, 1, 891, 1000);
        x = block(SIX_STORES);
        chance(x, 0, 3, 1, 1);
        x = block(SEVEN_STORES);
        chance(x, 0, 3, LATE, LATE);
        chance(x, 100, 3, BAD, BAD);
        x = block("V812lA0sA1alA1sB0asB1c");
        chance(x, 1, 5, 1, 8);
        // All six must be there for the three trees.
        x = block(SIX_COPIES);
        chance(x, 6, 1, 531441, 1000000);
        chance(x, 5, 9, 1, 1000000);
        chance(x, 7, 0, 0, 1);
    }

    private static void promise20Seed() {
        at = "20";
        PackLanes x = new PackLanes();
        due("seed(MIN)", x.seed(Long.MIN_VALUE), 0);
        due("seed(MAX)", x.seed(Long.MAX_VALUE), Long.MIN_VALUE);
        due("seed(5)", x.seed(5), Long.MAX_VALUE);
        x.drawn(1);
        due("seed(0) after a run", x.seed(0), 5 * 6364136223846793005L + 1442695040888963407L);
    }

    private static void promise21Drawn() {
        PackLanes x = block("V812k0sA0asB7alA1sA1d");
        BigInteger random = BigInteger.ZERO;
        int want = 0;
        for (int run = 0; run < 10; run++) {
            random = random.multiply(BigInteger.valueOf(6364136223846793005L))
                    .add(BigInteger.valueOf(1442695040888963407L)).mod(BigInteger.ONE.shiftLeft(64));
            int v = random.shiftRight(33).intValue();
            want += (v & 15) == 4 ? 0 : 1;
            want += (v >> 15 & 15) == 4 ? 0 : 1;
        }
        x.start(0, 5);
        x.keep(0);
        due("drawn(0)", x.drawn(0), BAD);
        due("drawn(11)", x.drawn(11), BAD);
        due("drawn(-1)", x.drawn(-1), BAD);
        due("drawn(10)", x.drawn(10), want);
        due("seed(0)", x.seed(0), random.longValue());
        due("drawn(1)", x.drawn(1) + x.drawn(9), want);
        due("seed(0)", x.seed(0), random.longValue());
        due("address(0, 0)", x.address(0, 0), 105);
        due("about(12)", x.about(12), 1);
        due("again(0)", x.again(0), 2);
        x = block("V812k0/aasA0a");
        due("drawn(10) if nothing is stored", x.drawn(10), 0);
    }

    private static void promise22Keep() {
        PackLanes x = block(COPY);
        due("keep(2)", x.keep(2), UNKNOWN);
        due("keep(-1)", x.keep(-1), UNKNOWN);
        due("keep(0)", x.keep(0), 2);
        x.set(2, 4);
        due("keep(1)", x.keep(1), 4);
        due("about(12)", x.about(12), 1);
        x.start(0, 30);
        due("keep(0) over it", x.keep(0), 4);
        x.start(0, 31);
        x.again(0);
        due("address(0, 0)", x.address(0, 0), 130);
        x.again(1);
        due("address(0, 0)", x.address(0, 0), 101);
    }

    private static void promise23Again() {
        PackLanes x = block(COPY4);
        due("again(2)", x.again(2), UNKNOWN);
        due("again(-1)", x.again(-1), UNKNOWN);
        due("again(0)", x.again(0), LATE);
        x.set(2, 4);
        x.set(0, 3);
        x.set(1, 0);
        x.start(9, -9);
        x.keep(1);
        due("again(0)", x.again(0), LATE);
        due("about(12)", x.about(12), 4);
        x.set(2, 2);
        x.set(0, 5);
        x.set(1, 1);
        x.start(9, 9);
        x.start(8, 8);
        due("again(1)", x.again(1), 4);
        due("about(1)", x.about(1), 3);
        due("about(2)", x.about(2), 0);
        due("about(3)", x.about(3), 4);
        due("about(6)", x.about(6), 2);
        due("address(9, 0)", x.address(9, 0), 91);
        due("address(8, 0)", x.address(8, 0), 109);
        due("about(12)", x.about(12), 0);
        due("undo()", x.undo(), LATE);
        x.start(9, 1);
        due("again(1), which stays kept", x.again(1), 4);
        due("address(9, 0)", x.address(9, 0), 91);
    }

    public static void main(String[] args) {
        promise1NewObject();
        promise2Write();
        promise3Wipe();
        promise4Fault();
        promise5Block();
        promise6About();
        promise7Instruction();
        promise8Address();
        promise9Depends();
        promise10Start();
        promise11Set();
        promise12Undo();
        promise13Tried();
        promise14Judge();
        promise15See();
        promise16Unsee();
        promise17Which();
        promise18Share();
        promise19Chance();
        promise20Seed();
        promise21Drawn();
        promise22Keep();
        promise23Again();
        CHECKS.end();
    }
}
