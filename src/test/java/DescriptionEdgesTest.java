/** What the document's description says of boundary cases, sentence by sentence and in its order. */
final class DescriptionEdgesTest {
    private static final Checks CHECKS = new Checks("edges of the description");

    // Two packs that wait for each other in one tree: B0 waits for A1, and A0 for B1.
    private static final String KNOT = "V812lA1lB1sB0asA0blB0lA0+fe+absA4gsA5h";
    // Two trees that can be scheduled, but not together: A to B and B to A.
    private static final String CYCLE = "V812lA0sB0alB0lB1sA0csA1dlA1sB1g";

    private static void edge(String part, String words) {
        CHECKS.edge(part, words);
    }

    private static Script fresh() {
        return new Script(CHECKS);
    }

    private static Script of(String text, String calls) {
        return fresh().block(text).run(calls);
    }

    // ---- what it is, the public face

    private static void atMost512Calls() {
        edge("What it is", "An object is used for at most 512 calls after it has been made");
        Script x = fresh();
        for (int k = 1; k <= 80; k++) {
            x.run("write(" + (int) "V812lA0lA1sB0asB1b ".charAt(Math.min(k - 1, 18)) + ") = " + k);
        }
        x.run("fault() = 18; wipe() = 80").block("V812lA0lA1sB0asB1b");
        for (int v = -99; v <= 99; v++) {
            x.run("start(0, " + v + ")").run("address(8, 2) = " + v);
        }
        x.run("about(12) = 14; undo() = 13; about(5) = 2; which() = 15; seed(7) = 0; drawn(10); about(7) = 15");
        x.run("address(8, 1) = 98; undo() = 12; keep(1) = 2; again(1) = 2; about(14) = 18");
        CHECKS.due("the calls so far", x.calls(), 512);
    }

    private static void constants() {
        edge("The public face", "UNKNOWN = -1, BAD = -2, LATE = -3, FULL = -4, NONE = -9");
        CHECKS.due("UNKNOWN", PackLanes.UNKNOWN, -1);
        CHECKS.due("BAD", PackLanes.BAD, -2);
        CHECKS.due("LATE", PackLanes.LATE, -3);
        CHECKS.due("FULL", PackLanes.FULL, -4);
        CHECKS.due("NONE", PackLanes.NONE, -9);
    }

    // ---- memory and instructions

    private static void addresses() {
        edge("Memory and instructions",
                "There are addresses 0 to 15, each with a start value (-99 to 99; at first the address plus 1).");
        Script x = fresh();
        for (int a = 0; a <= 15; a++) {
            x.run("address(" + a + ", 0) = " + (a + 101));
        }
        x.run("address(-1, 0) = UNKNOWN; address(16, 0) = UNKNOWN");
        for (int a = 0; a <= 15; a++) {
            x.run("start(" + a + ", -99) = " + (a + 101) + "; start(" + a + ", 99) = 1; start(" + a + ", 100) = BAD");
            x.run("start(" + a + ", -100) = BAD; address(" + a + ", 1) = 99");
        }
        x.run("start(-1, 0) = UNKNOWN; start(16, 0) = UNKNOWN");
    }

    private static void rowA() {
        edge("Memory and instructions", "Row A has cells 0 to 7 at the addresses 0 to 7");
        for (int base = 0; base <= 8; base++) {
            for (int cell = 0; cell <= 7; cell++) {
                Script x = of("V" + base + "12lA" + cell + "k9+absA" + cell + "c", "instruction(0, 5) = " + (cell + 1));
                for (int a = 0; a <= 15; a++) {
                    x.run("address(" + a + ", 1) = " + (a == cell ? cell + 10 : a + 1));
                }
            }
        }
    }

    private static void rowB() {
        edge("Memory and instructions",
                "row B has cells 0 to 7 at the addresses base to base + 7, where base is 0 to 8 (at first 8).");
        fresh().run("about(1) = 8");
        for (int base = 0; base <= 8; base++) {
            for (int cell = 0; cell <= 7; cell++) {
                int address = base + cell;
                Script x = of("V" + base + "12lB" + cell + "k9+absB" + cell + "c",
                        "about(1) = " + base + "; instruction(0, 5) = " + (address + 1));
                for (int a = 0; a <= 15; a++) {
                    x.run("address(" + a + ", 1) = " + (a == address ? address + 10 : a + 1));
                }
            }
        }
        fresh().run("set(0, -1) = BAD; set(0, 0) = 8; set(0, 8) = 0; set(0, 9) = BAD; about(1) = 8");
    }

    private static void knownAndWidth() {
        edge("Memory and instructions",
                "The setting known is 0 or 1 (at first 1); the width is 2 or 4 (at first 2).");
        fresh().run("about(2) = 1; about(3) = 2");
        fresh().run("set(1, -1) = BAD; set(1, 2) = BAD; set(1, 0) = 1; about(2) = 0; set(1, 1) = 0; about(2) = 1");
        fresh().run("set(2, 4) = 2; about(3) = 4; set(2, 2) = 4; about(3) = 2");
        for (int v : new int[] {-4, -2, -1, 0, 1, 3, 5, 6, 8, 16}) {
            fresh().run("set(2, " + v + ") = BAD; about(3) = 2");
        }
    }

    private static void sixteenInstructions() {
        edge("Memory and instructions", "A block has at most 16 instructions (at first none), numbered from 0.");
        fresh().run("about(0) = 0; instruction(0, 0) = UNKNOWN; depends(0, 0) = UNKNOWN");
        Script x = fresh().text("V812" + "k5".repeat(15) + "lA0").run("block() = 16; about(0) = 16");
        x.run("instruction(-1, 0) = UNKNOWN; instruction(0, 0) = 1; instruction(15, 0) = 0");
        x.run("instruction(15, 5) = 1; instruction(16, 0) = UNKNOWN; depends(15, 15) = 0; depends(16, 15) = UNKNOWN");
        fresh().text("V812" + "k5".repeat(17)).run("fault() = 36; block() = LATE; about(0) = 0");
    }

    private static void wrapAround() {
        edge("Memory and instructions", "have a value, an int; arithmetic wraps around.");
        // g is 2 to the power 31, i and j step back and forth over the end.
        Script x = of("V812k8*aa*bb*cck2*be*dfk1-gh+ih*gg-ji*iisA0gsB7j", "instruction(3, 5) = 16777216");
        x.run("instruction(6, 5) = MIN; instruction(8, 5) = MAX; instruction(9, 5) = MIN; instruction(10, 5) = 0");
        x.run("instruction(11, 5) = 1; instruction(12, 5) = 1; address(0, 1) = MIN; address(15, 2) = MIN");
        of("V812lA0lB0+ab-ab*ab", "start(0, -99) = 101; start(8, 99) = 109; instruction(2, 5) = 0")
                .run("instruction(3, 5) = -198; instruction(4, 5) = -9801");
    }

    private static void stopsHaveNoValue() {
        edge("Memory and instructions", "All of them except stores have a value, an int");
        of("V812k7sA0a", "instruction(0, 5) = 7; instruction(1, 5) = 0; which() = 3");
    }

    private static void kinds() {
        edge("Memory and instructions", "0 load: its value is the content of a cell of a row; 1 constant: a digit; "
                + "2 sum, 3 difference, 4 product, 5 quotient (as in Java) of a left and a right operand; 6 store");
        Script x = of("V812lA6k0k9+ac-ac*ac/acsB0d", "instruction(0, 5) = 7; instruction(1, 5) = 0");
        x.run("instruction(2, 5) = 9; instruction(3, 5) = 16; instruction(4, 5) = -2; instruction(5, 5) = 63");
        x.run("instruction(6, 5) = 0; instruction(7, 5) = 0; address(8, 1) = 16");
        for (int i = 0; i < 8; i++) {
            x.run("instruction(" + i + ", 0) = " + "01123456".charAt(i));
        }
    }

    private static void quotients() {
        edge("Memory and instructions", "5 quotient (as in Java)");
        // It is cut off towards 0, and the least int divided by -1 is itself.
        Script x = of("V812k0k7k2-ab-ac/dc/be/de/bd/ab", "instruction(3, 5) = -7; instruction(4, 5) = -2");
        x.run("instruction(5, 5) = -3; instruction(6, 5) = -3; instruction(7, 5) = 3; instruction(8, 5) = -1");
        x.run("instruction(9, 5) = 0; about(9) = NONE; about(10) = NONE");
        of("V812k8*aa*bb*cck2*be*dfk1k0-ih/gj*kj/kh", "instruction(6, 5) = MIN; instruction(9, 5) = -1")
                .run("instruction(10, 5) = MIN; instruction(11, 5) = MIN; instruction(12, 5) = MIN; about(9) = NONE");
    }

    private static void operands() {
        edge("Memory and instructions",
                "An operand is the value of an earlier instruction that is not a store; both operands may be the same.");
        of("V812k3+aa-aa*aa/aa", "instruction(1, 5) = 6; instruction(2, 5) = 0; instruction(3, 5) = 9")
                .run("instruction(4, 5) = 1");
        fresh().text("V812k3+ba").run("fault() = 7");
        fresh().text("V812k3+ab").run("fault() = 8");
        fresh().text("V812k3sA0a+ba").run("fault() = 11");
        fresh().text("V812k3sA0asA1b").run("fault() = 13");
    }

    // ---- the text

    private static void atMost80Characters() {
        edge("Memory and instructions", "The text is a sequence of at most 80 characters (0 to 255).");
        Script x = fresh().run("write(-1) = BAD; write(256) = BAD; write(0) = 1; write(255) = 2; fault() = 0");
        for (int k = 3; k <= 80; k++) {
            x.run("write(86) = " + k);
        }
        x.run("write(86) = FULL; about(14) = 80; fault() = 0; block() = LATE; wipe() = 80; write(86) = 1; fault() = 1");
    }

    /** At the end of a text that is right so far just the allowed characters can stand, of all 256. */
    private static void place(String before, String allowed) {
        int at = before.length();
        for (char c = 0; c < 256; c++) {
            Script x = fresh().text(before + c);
            long fault = x.answer("fault()");
            boolean stands = allowed.indexOf(c) >= 0;
            boolean due = stands ? fault == -9 || fault == at + 1 : fault == at;
            CHECKS.due("fault() of " + before + " and the character " + (int) c + ", " + fault + ", right",
                    due ? 1 : 0, 1);
            x.run("write(0) = " + (at + 2)).run("fault() = " + (stands ? at + 1 : at));
        }
    }

    private static void header() {
        edge("Memory and instructions",
                "\"V\", a digit 0 to 8 (base), a digit 0 or 1 (known), a digit 2 or 4 (width)");
        place("", "V");
        place("V", "012345678");
        place("V0", "01");
        place("V80", "24");
        fresh().text("V004").run("fault() = NONE; block() = 0; about(1) = 0; about(2) = 0; about(3) = 4");
        fresh().text("V812").run("fault() = NONE; block() = 0; about(1) = 8; about(2) = 1; about(3) = 2");
    }

    private static void instructionsOfTheText() {
        edge("Memory and instructions", "at most 16 instructions (also none) without separators");
        fresh().text("V812").run("fault() = NONE; block() = 0");
        place("V812k0", "lk+-*/s");
        place("V812k0+aa", "lk+-*/s");
        place("V812k0sA0a", "lk+-*/s");
        place("V812lB7", "lk+-*/s");
        String fifteen = "V812" + "k0".repeat(15);
        place(fifteen, "lk+-*/s");
        fresh().text(fifteen).run("fault() = NONE; block() = 15");
        fresh().text(fifteen + "lA0").run("fault() = NONE; block() = 16");
    }

    private static void loadsOfTheText() {
        edge("Memory and instructions", "\"l\", a row A or B, a cell (a digit 0 to 7)");
        place("V812l", "AB");
        place("V812lA", "01234567");
        place("V812lB", "01234567");
        of("V812lA0lA7lB0lB7", "instruction(0, 5) = 1; instruction(1, 5) = 8; instruction(2, 5) = 9")
                .run("instruction(3, 5) = 16");
    }

    private static void constantsOfTheText() {
        edge("Memory and instructions", "\"k\" and a digit");
        place("V812k", "0123456789");
        of("V812k0k9", "instruction(0, 5) = 0; instruction(1, 5) = 9");
    }

    private static void operationsAndStoresOfTheText() {
        edge("Memory and instructions",
                "one of \"+\", \"-\", \"*\", \"/\" and two operands, left and right; \"s\", a row A or B, a cell, and an operand");
        for (String sign : new String[] {"+", "-", "*", "/"}) {
            place("V812k0k1lA0" + sign, "abc");
            place("V812k0k1lA0" + sign + "b", "abc");
        }
        place("V812k0k1lA0s", "AB");
        place("V812k0k1lA0sA", "01234567");
        place("V812k0k1lA0sB", "01234567");
        place("V812k0k1lA0sB7", "abc");
        of("V812k7k2-ab/ab", "instruction(2, 5) = 5; instruction(3, 5) = 3");
    }

    private static void lettersOfOperands() {
        edge("Memory and instructions",
                "An operand is written as the letter of its instruction (a for 0, b for 1, and so on).");
        // Stores have letters too, but are no operands.
        place("V812k0sA0alA0sB0ck1+", "ace");
        place("V812k0sA0alA0sB0ck1+c", "ace");
        place("V812k0sA0alA0sB0ck1sA1", "ace");
        String fifteen = "V812k1k2k3k4k5k6k7k8k9k1k2k3k4k5k6";
        place(fifteen + "+", "abcdefghijklmno");
        place(fifteen + "+o", "abcdefghijklmno");
        place(fifteen + "sA0", "abcdefghijklmno");
        of(fifteen + "-ao", "instruction(15, 5) = -5");
    }

    private static void firstWrongCharacter() {
        edge("Memory and instructions",
                "The fault of the text is the index of the first character that cannot stand at its place");
        fresh().text("X912").run("fault() = 0");
        fresh().text("V9x3").run("fault() = 1");
        fresh().text("V812lC8k1").run("fault() = 5");
        fresh().text("V812k1x+ab").run("fault() = 6");
        fresh().text("V812k1+bc").run("fault() = 7");
        fresh().text("V812k1sA0alA0+ab").run("fault() = 15; block() = LATE");
    }

    private static void seventeenthInstruction() {
        edge("Memory and instructions", "(also the first character of a seventeenth instruction");
        String sixteen = "V812k0" + "sA0a".repeat(15);
        fresh().text(sixteen).run("fault() = NONE; block() = 16");
        place(sixteen, "");
        fresh().text(sixteen + "lA0").run("fault() = 66; block() = LATE");
        fresh().text("V812" + "k0".repeat(16) + "k0").run("fault() = 36");
    }

    private static void noEarlierValue() {
        edge("Memory and instructions",
                "and \"+\", \"-\", \"*\", \"/\" or \"s\" if there is no earlier instruction that is not a store)");
        place("V812", "lk");
        place("V004", "lk");
        fresh().text("V812+aa").run("fault() = 4; block() = LATE");
        fresh().text("V812sA0a").run("fault() = 4");
    }

    private static void notComplete() {
        edge("Memory and instructions", "if there is none but the text is not complete, it is its length.");
        fresh().run("fault() = 0");
        String whole = "V812lA0k9+ab-ab*ab/absB7c";
        String complete = "4 7 9 12 15 18 21 25 ";
        for (int length = 0; length <= whole.length(); length++) {
            boolean all = (" " + complete).contains(" " + length + " ");
            fresh().text(whole.substring(0, length)).run("fault() = " + (all ? -9 : length));
        }
    }

    // ---- the run

    private static void runBeginsWithStartValues() {
        edge("Memory and instructions",
                "A run writes the start values to all addresses and carries out the instructions in order.");
        Script x = of("V812lA0k5sA0blA0+adsA1elA1", "instruction(0, 5) = 1; instruction(3, 5) = 5");
        for (int k = 0; k < 3; k++) {
            x.run("address(0, 1) = 5; address(1, 1) = 6; address(0, 2) = 5; address(1, 2) = 6; address(0, 0) = 101");
            x.run("instruction(6, 5) = 6; which() = 127; drawn(2); tried(0, 0)");
        }
        x.run("start(0, -99) = 101; address(1, 1) = -94; address(0, 1) = 5; start(0, 99) = 1; address(1, 1) = 104");
    }

    private static void stopAtQuotient() {
        edge("Memory and instructions", "At a quotient with the right operand 0 it stops: "
                + "this instruction and all later ones are not carried out.");
        Script x = of("V812k0k3sA0b/basA1bk7/aasB0f", "about(9) = 3; about(10) = 3; address(0, 1) = 3");
        x.run("address(0, 2) = 3; address(1, 1) = 2; address(1, 2) = 2; address(8, 1) = 9; address(8, 2) = 9");
        x.run("instruction(1, 5) = 3; instruction(3, 5) = 0; instruction(5, 5) = 0; instruction(6, 5) = 0");
        of("V812k0/aa", "about(9) = 1; about(10) = 1");
        of("V812k0k1/ab", "about(9) = NONE; about(10) = NONE; instruction(2, 5) = 0");
        of("V812lA0lA1/ba/ab", "about(9) = NONE; start(0, 0) = 101; about(9) = 2; about(10) = 2; start(0, -1) = 100")
                .run("about(9) = NONE; start(1, 0) = 102; about(9) = 3; instruction(2, 5) = 0");
    }

    private static void runUsesBase() {
        edge("Memory and instructions", "The run uses base, whatever known is.");
        for (int base = 0; base <= 8; base++) {
            for (int known = 0; known <= 1; known++) {
                String text = "V" + base + known + "2lB0k0sB7b";
                of(text, "instruction(0, 5) = " + (base + 1) + "; address(" + (base + 7) + ", 1) = 0")
                        .run("address(" + (base + 7) + ", 2) = 0; about(2) = " + known);
            }
        }
    }

    // ---- dependences

    private static void onlyLaterOnes() {
        edge("Dependences", "For i < j, instruction j follows instruction i");
        of("V802k1+aasA0blA0/dd", "depends(0, 0) = 0; depends(1, 1) = 0; depends(4, 4) = 0; depends(1, 0) = 0")
                .run("depends(3, 2) = 0; depends(4, 2) = 0; depends(2, 1) = 0; depends(2, 3) = 1; depends(0, 4) = 1");
    }

    private static void operandFollowed() {
        edge("Dependences", "if i is an operand of j");
        for (String sign : new String[] {"+", "-", "*", "/"}) {
            of("V812k1k2k3" + sign + "ab", "depends(0, 3) = 1; depends(1, 3) = 1; depends(2, 3) = 0");
        }
        of("V812k1k2sA0b", "depends(1, 2) = 1; depends(0, 2) = 0");
    }

    private static void sameRowSameCell() {
        edge("Dependences", "or if both are loads or stores, at least one of them is a store, and they can meet: "
                + "they have the same row and the same cell");
        for (int known = 0; known <= 1; known++) {
            for (String row : new String[] {"A", "B"}) {
                String cell0 = row + "0";
                String cell1 = row + "1";
                Script x = of("V8" + known + "2k1l" + cell0 + "s" + cell0 + "as" + cell0 + "al" + cell0 + "l" + cell0
                        + "l" + cell1 + "s" + cell1 + "as" + row + "7a", "depends(1, 2) = 1; depends(2, 3) = 1");
                x.run("depends(3, 4) = 1; depends(4, 5) = 0; depends(3, 6) = 0; depends(3, 7) = 0; depends(6, 7) = 1");
                x.run("depends(7, 8) = 0; depends(6, 8) = 0; depends(1, 4) = 1; depends(4, 7) = 0");
            }
        }
        of("V812lA0lA0", "depends(0, 1) = 0");
    }

    private static void differentRows() {
        edge("Dependences", "or they have different rows and known is 0 or their addresses are equal;");
        for (int base = 0; base <= 8; base++) {
            for (int a = 0; a <= 7; a++) {
                for (int b = 0; b <= 7; b++) {
                    int meet = a == base + b ? 1 : 0;
                    Script x = of("V" + base + "12k1sA" + a + "alB" + b, "depends(1, 2) = " + meet);
                    x.run("set(1, 0) = 1; depends(1, 2) = 1");
                    x.block("V" + base + "02k1lB" + b + "sA" + a + "a").run("depends(1, 2) = 1; set(1, 1) = 0");
                    x.run("depends(1, 2) = " + meet);
                    x.block("V" + base + "12k1sB" + b + "asA" + a + "a").run("depends(1, 2) = " + meet);
                    x.block("V" + base + "02lA" + a + "lB" + b).run("depends(0, 1) = 0");
                }
            }
        }
    }

    private static void quotientsKeepTheirOrder() {
        edge("Dependences", "or if one of them is a quotient and the other one is a quotient or a store.");
        of("V812k1/aasB0a/aalA0+aa-aa*aak2", "depends(1, 2) = 1; depends(1, 3) = 1; depends(2, 3) = 1")
                .run("depends(1, 4) = 0; depends(3, 4) = 0; depends(1, 5) = 0; depends(1, 6) = 0; depends(1, 7) = 0")
                .run("depends(1, 8) = 0; depends(2, 4) = 0; depends(2, 5) = 0");
        of("V812k1/aa+aa/aa", "depends(1, 3) = 1; depends(2, 3) = 0; depends(1, 2) = 0; instruction(3, 4) = 2");
        of("V802lA0k1+bb-bb*bb/bb", "depends(0, 5) = 0; depends(1, 5) = 1; depends(2, 5) = 0; depends(3, 5) = 0")
                .run("depends(4, 5) = 0");
    }

    private static void followsFollowed() {
        edge("Dependences", "j depends on i if it follows i, or follows something that depends on i.");
        StringBuilder chain = new StringBuilder("V812k1");
        for (char c = 'a'; c < 'p'; c++) {
            chain.append('+').append(c).append(c);
        }
        Script x = of(chain.toString(), "depends(0, 15) = 1; depends(14, 15) = 1; instruction(15, 4) = 15");
        x.run("instruction(0, 4) = 0; instruction(1, 4) = 1; instruction(8, 4) = 8");
        // by an operand, by memory, by an operand, by a quotient and a store
        of("V812lA0sA1alA1/cclA2sB7e", "depends(0, 5) = 1; depends(2, 5) = 1; depends(4, 5) = 1; depends(0, 4) = 0")
                .run("instruction(5, 4) = 5; instruction(3, 4) = 3");
    }

    // ---- packs

    private static void packOfDifferentOnes() {
        edge("Packs", "A pack consists of as many different instructions as the width says");
        of("V812lA0lA1+aasA4csA5c", "tried(0, 4) = 100; about(6) = 0");
        of("V814lA0lA1+aa+bbsB0csB1dsB2csB3d", "tried(1, 0) = 99; about(6) = 0");
        of("V814lA0lA1lA2+aa+bb+ccsB0dsB1esB2fsB3d", "tried(1, 0) = 99");
        // Three of four lanes are no pack, and neither are two of them.
        of("V814lA0lA1lA2sB0asB1bsB2c", "tried(1, 0) = NONE; about(6) = 0; set(2, 2) = 4; about(6) = 2");
    }

    private static void packOfOneKind() {
        edge("Packs", "all have the same kind, which is load, sum, difference, product or store");
        of("V812lA0lA1sB0asB1b", "tried(1, 0) = 102");
        of("V812lA0lA1+aa+bbsB0csB1d", "tried(1, 0) = 103");
        of("V812lA0lA1-aa-bbsB0csB1d", "tried(1, 0) = 103");
        of("V812lA0lA1*aa*bbsB0csB1d", "tried(1, 0) = 103");
        of("V812lA0lA1/aa/bbsB0csB1d", "tried(1, 0) = 99");
        of("V812k1k2sB0asB1b", "tried(1, 0) = 100");
        of("V812lA0lA1+aa-bbsB0csB1d", "tried(1, 0) = 99");
        of("V812lA0lA1-aa*bbsB0csB1d", "tried(1, 0) = 99");
        of("V812lA0+aasB0asB1b", "tried(1, 0) = 99");
        of("V812lA0k1sB0asB1b", "tried(1, 0) = 99");
        of("V814lA0lA1lA2lA3+aa+bb+cc-ddsB4esB5fsB6gsB7h", "tried(1, 4) = 99");
        of("V814lA0lA1lA2lA3+aa+bb+cc+ddsB4esB5fsB6gsB7h", "tried(1, 4) = 109");
    }

    private static void packOfIndependentOnes() {
        edge("Packs", "none of them depends on another one of them");
        of("V812lA0+aa+bbsB0bsB1c", "tried(1, 0) = 99; about(6) = 0");
        of("V812lA0+aa+bbsB0csB1b", "tried(1, 0) = 99");
        of("V812lA0+aa-bb+ccsB0bsB1d", "tried(1, 0) = 99");
        of("V812lA0+aa-bb+ccsB0dsB1b", "tried(1, 0) = 99");
        of("V814lA0+aa+aa+aa+bbsB0bsB1csB2dsB3e", "tried(1, 0) = 99");
        of("V814lA0+aa+aa+aa+aasB0bsB1csB2dsB3e", "tried(1, 0) = 104");
        // Loads and stores too: b, the load of A1, waits for the store of a.
        of("V812lA0sA1alA1sB0asB1c", "tried(1, 0) = 99");
        of("V812lA0sA1alA1sA2c", "tried(0, 1) = NONE; about(6) = 0");
        of("V812lA0sA2alA2sA1c", "tried(0, 1) = NONE; about(6) = 0");
    }

    private static void packOfNeighbours() {
        edge("Packs", "if they are loads or stores, they have the same row, "
                + "and the cell of each lane is 1 greater than that of the lane before.");
        of("V812lA6lA7sB0asB1b", "tried(1, 0) = 102");
        of("V812lA1lA0sB0bsB1a", "tried(1, 0) = 102");
        of("V812lA1lA0sB0asB1b", "tried(1, 0) = 99");
        of("V812lA0lA0sB0asB1b", "tried(1, 0) = 99");
        of("V812lA0lA2sB0asB1b", "tried(1, 0) = 99");
        of("V812lA0lB1sB4asB5b", "tried(1, 4) = 99");
        // Addresses 7 and 8, but other rows; the address 4 twice, but cells 3 and 4.
        of("V812lA7lB0sA0asA1b", "tried(0, 0) = 99");
        of("V112lA4lB4sA6asA7b", "tried(0, 6) = 99");
        of("V814lA0lA1lA2lA4sB0asB1bsB2csB3d", "tried(1, 0) = 99");
        of("V814lA0lA1lA1lA2sB0asB1bsB2csB3d", "tried(1, 0) = 99");
        of("V814lA4lA5lA6lA7sB0asB1bsB2csB3d", "tried(1, 0) = 106");
        of("V814lA0lA1lB2lB3sB4asB5bsB6csB7d", "tried(1, 4) = 99");
    }

    // ---- trees

    private static void firstBundleFirst() {
        edge("Packs", "While the queue is not empty, its first bundle is taken out");
        // The sums come before the loads of the left ones.
        Script x = of("V812lA0lA1lB0lB1lA2lA3lB2lB3+ac+bd+eg+fh*ik*jlsA4msA5n", "about(6) = 8; about(5) = 8");
        String numbers = "4455667722331100";
        for (int i = 0; i < 16; i++) {
            x.run("instruction(" + i + ", 1) = " + numbers.charAt(i) + "; instruction(" + i + ", 2) = " + i % 2);
        }
    }

    private static void takenByAnEarlierTree() {
        edge("Packs", "1. If it is a pack and none of its instructions is in a kept pack (see below) "
                + "or in a pack of this tree, it is added to the tree.");
        // b is kept with a, so that the pack of b and c comes too late.
        of("V812lA0lA1lA2sA4asA5bsB0bsB1c", "tried(0, 4) = 101; tried(1, 0) = 101; about(8) = 1; about(6) = 2")
                .run("about(7) = 27; about(5) = 6");
        // b is in the pack of the left operands.
        of("V812lA0lA1lA2+ab+bcsA5dsA6e", "tried(0, 5) = 100; about(6) = 0");
        // The right operands are a pack, but the sums c and d are there in the other lanes.
        of("V812lA0lA1+aa+bb*cd*dcsA4esA5f", "tried(0, 4) = 100");
    }

    private static void loadsHaveNoOperands() {
        edge("Packs", "If it does not consist of loads, the bundle of its left operands "
                + "and then that of its right operands are appended to the queue.");
        of("V812lA0lA1lB0lB1-ac-bdsA4esA5f", "instruction(6, 1) = 0; instruction(4, 1) = 1; instruction(0, 1) = 2")
                .run("instruction(2, 1) = 3; about(6) = 4; tried(0, 4) = 104");
        of("V812k1k2lA0lA1sB0csB1d", "tried(1, 0) = 102; about(7) = 60");
    }

    private static void exchangedOperands() {
        edge("Packs", "left and right operand of a lane other than 0 are exchanged if the pack consists of sums "
                + "or products, the left operand of this lane has another kind than the left operand of lane 0, "
                + "and its right operand has the same kind as the left operand of lane 0.");
        of("V812lA0lA1k5k6+ac+dbsA4esA5f", "tried(0, 4) = 102; about(6) = 3");
        of("V812lA0lA1k5k6*ac*dbsA4esA5f", "tried(0, 4) = 102");
        of("V812lA0lA1k5k6-ac-dbsA4esA5f", "tried(0, 4) = 98");
        // Lane 0 is the measure, whichever of its operands the constant is.
        of("V812lA0lA1k5k6+ca+bdsA4esA5f", "tried(0, 4) = 102");
        of("V814lA0lA1lA2lA3k5+ae+eb+ce+edsA4fsA5gsA6hsA7i", "tried(0, 4) = 108");
        of("V814lA0lA1lA2lA3k5+ea+be+ec+desA4fsA5gsA6hsA7i", "tried(0, 4) = 108");
        of("V814lA0lA1lA2lA3k5-ae-eb-ce-edsA4fsA5gsA6hsA7i", "tried(0, 4) = 98");
        // The left operand has the kind of lane 0 already.
        of("V812lA0lA1lB0lB1+ac+dbsA4esA5f", "tried(0, 4) = 98");
        // The right operand, a constant, has not the kind of lane 0, though it would make room for the products.
        of("V812lA0lA1*aa*bbk5+ac+desB0fsB1g", "tried(1, 0) = 98");
    }

    private static void packAgain() {
        edge("Packs", "2. Otherwise, if it is equal to a pack of this tree, lane by lane, nothing happens.");
        of("V812lA0lA1*aa*bbsA4csA5d", "tried(0, 4) = 103; about(6) = 3");
        of("V812lA0lA1+ab+basA4csA5d", "tried(0, 4) = 99");
        of("V814lA0lA1lA2lA3*aa*bb*cc*ddsB4esB5fsB6gsB7h", "tried(1, 4) = 109");
        // A kept pack of an earlier tree is none of this tree.
        of("V812lA0lA1*aa*bbsA4csA5dsB0asB1b", "about(8) = 1; about(5) = 7; tried(1, 0) = 100");
        of("V812lA0lA1lA2lA3*aa*bbsA4esA5f+ac+bdsB0isB1j", "about(8) = 2; about(7) = 4095; about(5) = 10");
    }

    private static void sameOrConstants() {
        edge("Packs", "3. Otherwise, if it is the same instruction in all lanes, or all its instructions are constants, "
                + "it costs 1 and is taken one by one.");
        of("V812lA0sB0asB1a", "tried(1, 0) = 100");
        of("V814lA0sB0asB1asB2asB3a", "tried(1, 0) = 102");
        of("V812k1/aasB0bsB1b", "tried(1, 0) = 100");
        of("V812k1sB0asB1a", "tried(1, 0) = 100");
        of("V812k1k2sB0asB1b", "tried(1, 0) = 100");
        of("V814k1k2k3k4sB0asB1bsB2csB3d", "tried(1, 0) = 102; about(6) = 1");
        of("V814k1k2k1sB0asB1asB2bsB3c", "tried(1, 0) = 102");
        // Three lanes of four are not all.
        of("V814k1k2k3lA0sB0asB1bsB2csB3d", "tried(1, 0) = 99");
        of("V814lA0k1k2k3sB0asB1bsB2csB3d", "tried(1, 0) = 99");
        of("V814lA0lB0sA4asA5asA6asA7b", "tried(0, 4) = 99");
        of("V814lA0lB0sA4bsA5asA6asA7a", "tried(0, 4) = 99");
    }

    private static void costOfTheWidth() {
        edge("Packs", "4. Otherwise it costs as much as the width and is taken one by one.");
        of("V812lA0lB0sA4asA5b", "tried(0, 4) = 99; about(5) = 4");
        of("V814lA0lB0lA1lB1sA4asA5bsA6csA7d", "tried(0, 4) = 99; set(2, 2) = 4; tried(0, 4) = 99");
        of("V814lA0lB0lA1lB1+aa+bb+cc+ddsA4esA5fsA6gsA7h", "tried(0, 4) = 98; set(2, 2) = 4; tried(0, 4) = 98");
    }

    private static void gain() {
        edge("Packs", "The gain of a tree is (width - 1) * (number of its packs), minus the costs of its bundles, "
                + "minus 1 for each instruction in its packs, except stores, whose value is used by an instruction "
                + "that is in no pack (neither of this tree nor kept)");
        of("V812lA0lA1sA4asA5b", "tried(0, 4) = 102");
        of("V814lA0lA1lA2lA3sA4asA5bsA6csA7d", "tried(0, 4) = 106");
        of("V812lA0lA1sA4asA5bsB7a", "tried(0, 4) = 101; about(5) = 4");
        of("V812lA0lA1sA4asA5bsB7asB5a", "tried(0, 4) = 101");
        of("V812lA0lA1sA4asA5bsB7asB5b", "tried(0, 4) = 100; about(8) = 0");
        of("V812lA0lA1/basA4asA5b", "tried(0, 4) = 100");
        of("V812lA0lA1sA4asA5b*aa", "tried(0, 4) = 101");
        of("V814lA0lA1lA2lA3sA4asA5bsA6csA7dsB0asB2d", "tried(0, 4) = 104");
        // The loads of B are used by sums of the kept tree, which is none that is kept if it is tried.
        of("V812lA0lA1lB0lB1+ad+bcsA4esA5fsB4csB5d", "tried(0, 4) = 101; tried(1, 4) = 100; about(8) = 2")
                .run("about(5) = 7");
    }

    private static void countsOnce() {
        edge("Packs", "or that occurs in a bundle of this tree that was taken one by one "
                + "(an instruction for which both holds counts once).");
        of("V812lA0lA1*aa*basA4csA5d", "tried(0, 4) = 101");
        of("V812lA0lA1*aa*basA4csA5dsB7a", "tried(0, 4) = 101");
        of("V812lA0lA1*aa*basA4csA5dsB7b", "tried(0, 4) = 100");
        of("V812lA0lA1*ab*basA4csA5d", "tried(0, 4) = 99");
        // It does so in whichever of these bundles it stands, here in the first of two.
        of("V812lA0lA1k5*aa*ba-ca-cb+df+egsB0hsB1i", "tried(1, 0) = 102; about(6) = 5");
        // It may come to a pack later than it was taken one by one.
        of("V812lA0lA1lA2-ba-bbsB0dsB1e", "tried(1, 0) = 101");
        of("V814lA0lA1lA2lA3+aa+ab+ac+adsB4esB5fsB6gsB7h", "tried(1, 4) = 107");
    }

    // ---- which packs are kept

    private static void rowAFirst() {
        edge("Packs", "Which packs are kept: first for row A and then for row B");
        Script x = of("V812lA0lA1sB0asB1blB4lB5sA4esA5f", "about(8) = 2");
        String numbers = "33221100";
        for (int i = 0; i < 8; i++) {
            x.run("instruction(" + i + ", 1) = " + numbers.charAt(i));
        }
        // Both want b, and row A takes it.
        of("V812lA0lA1lA2sB0bsB1csA4asA5b", "about(7) = 99; about(8) = 1");
    }

    private static void cellsInAscendingOrder() {
        edge("Packs", "for each cell c from 0 to 8 - width in ascending order");
        for (int c = 0; c <= 6; c++) {
            of("V812lA0lA1sB" + c + "asB" + (c + 1) + "b", "about(6) = 2; about(7) = 15");
            of("V812lB0lB1sA" + c + "asA" + (c + 1) + "b", "about(6) = 2; about(7) = 15");
        }
        for (int c = 0; c <= 4; c++) {
            of("V814lA0lA1lA2lA3sB" + c + "asB" + (c + 1) + "bsB" + (c + 2) + "csB" + (c + 3) + "d",
                    "about(6) = 2; about(7) = 255");
        }
        of("V812lA0lA1lA2sB0asB1bsB2c", "about(7) = 27; about(8) = 1");
        of("V812lA0lA1lA2sB6bsB7csB5a", "about(7) = 43; about(8) = 1");
        of("V812lA0lA1sB6asB7blA2lA3sB0esB1f", "instruction(6, 1) = 0; instruction(4, 1) = 1; instruction(2, 1) = 2")
                .run("instruction(0, 1) = 3");
    }

    private static void leastStoreInNoKeptPack() {
        edge("Packs", "let lane k be the least store into cell c + k of this row that is in no kept pack.");
        of("V812lA0lA1k1sB0asB1bsB0c", "tried(1, 0) = 102; about(7) = 27");
        of("V812lA0lA1k1sB0csB1bsB0a", "tried(1, 0) = 99; about(7) = 0");
        // The second store into B1 is the least one left when B1 and B2 are looked at.
        of("V812lA0lA1lA2lA3sB0asB1bsB1csB2d", "about(8) = 2; about(6) = 4; about(5) = 4; tried(1, 1) = 99")
                .run("instruction(6, 1) = 2; instruction(7, 1) = 2; instruction(5, 1) = 0");
    }

    private static void noStoreForALane() {
        edge("Packs", "If there is such a store for each lane and they are a pack, the tree with this root is built.");
        of("V812lA0lA1sB0asB2b", "about(8) = 0; tried(1, 0) = NONE; tried(1, 1) = NONE");
        of("V814lA0lA1lA2lA3sB0asB1bsB2csB4d", "about(8) = 0; tried(1, 0) = NONE; tried(1, 1) = NONE");
        of("V812lA0lA1sA4asB5b", "about(8) = 0; tried(0, 4) = NONE");
        of("V812lA0sA4alA4sA5c", "about(8) = 0; tried(0, 4) = NONE");
        fresh().run("about(8) = 0; about(6) = 0; about(7) = 0");
    }

    private static void gainAboveZero() {
        edge("Packs", "If its gain is greater than 0");
        of("V812lA0lB0sA4asA5b", "tried(0, 4) = 99; about(8) = 0");
        of("V812k1k2sB0asB1b", "tried(1, 0) = 100; about(8) = 0; about(7) = 0; instruction(2, 1) = NONE");
        of("V812lA0lA1sA4asA5bsB7a", "tried(0, 4) = 101; about(8) = 1; about(7) = 15");
    }

    private static void scheduledTogether() {
        edge("Packs", "and its packs can be scheduled together with those that are kept, its packs are kept");
        of(CYCLE, "tried(0, 0) = 102; tried(1, 0) = 102; about(8) = 1; about(7) = 60");
        of(KNOT, "tried(0, 4) = 102; about(8) = 0; about(7) = 0; about(5) = 10");
    }

    private static void numberedOnOrNone() {
        edge("Packs", "numbered on in the order in which they came to the tree; otherwise none of them.");
        // The first tree fails, and its loads come to the second one.
        Script x = of("V812lA0lA1+ab+ba*aa*bbsA4csA5dsB0esB1f", "tried(0, 4) = 99; about(8) = 1; about(7) = 819");
        x.run("instruction(8, 1) = 0; instruction(5, 1) = 1; instruction(0, 1) = 2; instruction(2, 1) = NONE");
        x.run("about(5) = 9; instruction(6, 2) = NONE");
        x = of(KNOT, "about(6) = 0");
        for (int i = 0; i < 10; i++) {
            x.run("instruction(" + i + ", 1) = NONE; instruction(" + i + ", 3) = " + i);
        }
        of("V812lA0lA1lB0lB1+ad+bcsA4esA5fsB4csB5d", "instruction(6, 1) = 0; instruction(4, 1) = 1")
                .run("instruction(0, 1) = 2; instruction(8, 1) = 3; instruction(2, 1) = 4; about(6) = 5");
    }

    // ---- scheduling, cost

    private static void leastNodeFirst() {
        edge("Packs", "of the nodes that are not in the schedule and whose instructions follow only instructions of "
                + "the same node or of nodes in the schedule, the one whose least instruction is least is appended");
        schedule("V812lA0k5k6", "012");
        schedule("V812lA0k1lA1sB0asB1c", "01022");
        // The pack of the loads waits for the store into A1, and the sum waits for the loads.
        schedule("V812lA0k5+absA1blA1*aa*eesB0fsB1gsB7c", "2031244556");
        schedule(CYCLE, "01223345");
        schedule("V812lA0lA1lB0lB1+ad+bcsA4esA5fsB4csB5d", "0011223344");
        schedule("V812lA0lA1lB0lB1lA2lA3lB2lB3+ac+bd+eg+fh*ik*jlsA4msA5n", "0011223344556677");
        schedule("V812lA0lA1lA2lA3sB0asB1bsB1csB2dk1k2k3k4k5", "001122334" + "5678");
    }

    private static void schedule(String text, String nodes) {
        Script x = of(text, "about(0) = " + nodes.length());
        for (int i = 0; i < nodes.length(); i++) {
            x.run("instruction(" + i + ", 3) = " + nodes.charAt(i));
        }
    }

    private static void noNodeRemains() {
        edge("Packs", "It is possible if no node remains. The schedule of the block is that with all kept packs.");
        schedule(KNOT, "0123456789");
        of(KNOT + "k1k2k3k4k5k6", "about(0) = 16; tried(0, 4) = 102; about(8) = 0; instruction(15, 3) = 15");
        schedule("V812", "");
        schedule("V812lA0lA1sB0asB1b", "0011");
        schedule("V814lA0lA1lA2lA3sB0asB1bsB2csB3d", "00001111");
        Script x = of("V812lA0lA1sB0asB1b", "set(2, 4) = 2");
        x.run("instruction(0, 3) = 0; instruction(1, 3) = 1; instruction(2, 3) = 2; instruction(3, 3) = 3");
    }

    private static void packedRun() {
        edge("Packs", "A packed run is a run in this order; the instructions of a pack are carried out at once.");
        of(CYCLE, "address(8, 2) = 1; address(0, 2) = 1; address(1, 2) = 10; address(9, 2) = 10; about(10) = NONE");
        of("V812lA0k5+absA1blA1*aa*eesB0fsB1gsB7c", "address(8, 2) = 1; address(9, 2) = 25; address(15, 2) = 6");
        // The packs before the stop are carried out, the one behind it is not.
        of("V812lA0lA1sB0asB1bk0/eelA2lA3sA4gsA5h", "about(8) = 2; about(10) = 5; address(8, 2) = 1")
                .run("address(9, 2) = 2; address(4, 2) = 5; address(5, 2) = 6");
    }

    private static void cost() {
        edge("Packs", "The cost of a block is the number of instructions that are not constants.");
        fresh().run("about(4) = 0; about(5) = 0");
        of("V812" + "k9".repeat(16), "about(4) = 0; about(5) = 0");
        of("V812k1lA0+ab-ab*ab/basA0a", "about(4) = 6; about(5) = 6");
    }

    private static void gainAsItWas() {
        edge("Packs", "minus the sum of the gains of the trees whose packs are kept "
                + "(the gain of each as it was when its packs were kept).");
        // The second tree packs the sum that the first one had counted as a user of a.
        of("V812lA0lA1lA2lA3lB7+ca+desA4asA5bsB0fsB1g", "tried(0, 4) = 101; tried(1, 0) = 101; about(8) = 2")
                .run("about(5) = 9; about(4) = 11");
    }

    // ---- omitted stores

    private static void shares(String text, int first, String fractions) {
        Script x = of(text, "about(0)");
        String[] told = fractions.split(" ");
        for (int k = 0; k < told.length; k++) {
            String[] parts = told[k].split("/");
            x.run("share(" + (first + k) + ", true) = " + parts[0] + "; share(" + (first + k) + ", false) = " + parts[1]);
        }
    }

    private static void nothingElseIsOmitted() {
        edge("Omitted stores", "For share and chance some stores are omitted");
        Script x = of("V812lA0lA1k1sB0csB1bsB0a", "about(8) = 0; share(3, true) = -2; chance(1, 5, true) = 1");
        x.run("about(8) = 0; about(7) = 0; about(5) = 5; tried(1, 0) = 99; judge(1, 60005) = NONE; depends(3, 5) = 1");
        x.run("instruction(5, 4) = 3; instruction(3, 3) = 3; instruction(5, 3) = 5; address(8, 1) = 1; address(8, 2) = 1");
        x.run("which() = 63; share(3, false) = 3; chance(1, 5, false) = 8");
    }

    private static void omittedFollowsNothing() {
        edge("Omitted stores", "an omitted store follows nothing, nothing follows it");
        // Without the store into A1 the loads are a pack.
        of("V812lA0sA1alA1sB0asB1c", "share(1, true) = -2; share(1, false) = 3; share(3, true) = 1; share(4, false) = 3")
                .run("chance(1, 5, true) = 1; chance(1, 5, false) = 8");
        // If the rows are unknown, the load of A0 and that of A1 are on both sides of a store into B5.
        shares("V802lA0sB5alA1sA4asA5c", 3, "1/3 1/3");
        shares("V802lA0k1sB5blA1sA4asA5d", 4, "1/3 1/3");
        of("V802lA0k1sB5blA1sA4asA5d", "share(2, true) = -2; share(2, false) = 3; set(1, 1); share(2, true) = 0");
        // Without the store into B7 the second sum, of the quotient, does not wait for the first one.
        of("V812lA0lA1k1+casB7d/cc+fbsA4dsA5g", "share(4, true) = -1; share(4, false) = 3; share(7, true) = 1")
                .run("share(7, false) = 6; share(8, true) = 1; share(8, false) = 6");
    }

    private static void omittedUsesNothing() {
        edge("Omitted stores", "it uses no value");
        shares("V812lA0lA1*aa*bbsA4csA5dsB7a", 4, "7/6 7/6 -1/3");
        of("V812lA0lA1sA4asA5bsB7a", "chance(2, 5, true) = 1; chance(2, 5, false) = 8; chance(1, 5, false) = 4");
    }

    private static void omittedInNoRoot() {
        edge("Omitted stores", "is never in a root");
        shares("V812lA0lA1sB0asB1b", 2, "1/1 1/1");
        // The next store into the cell takes its place.
        shares("V812lA0lA1k1sB0csB1bsB0a", 3, "-2/3 1/3 1/3");
        of("V812lA0lA1sB0asB1b", "chance(1, 10, true) = 0; chance(1, 1, true) = 81; chance(1, 1, false) = 100");
        for (int others = 0; others <= 12; others++) {
            of("V812lA0lA1" + "k1".repeat(others) + "sB0asB1b", "chance(1, 5, true) = 1; chance(1, 5, false) = 4")
                    .run("about(7) = " + (3 + (3 << others + 2)));
        }
    }

    private static void omittedIsScheduled() {
        edge("Omitted stores", "and is taken as already scheduled.");
        of("V812lA0lA1lA2sB0asB1bsB2c", "chance(1, 5, true) = 3; chance(1, 5, false) = 8");
        // The trees of the cycle can be scheduled if a store of the other one is omitted.
        of(CYCLE, "chance(2, 5, true) = 7; chance(2, 5, false) = 16; chance(3, 5, true) = 0");
    }

    // ---- acts, slots

    private static void whatAnActIs() {
        edge("Acts, slots", "The calls of start and set that return no error code are acts.");
        of("V812lA0lA1sB0asB1b", "start(0, 1) = 101; about(12) = 1; set(0, 8) = 8; about(12) = 2; set(1, 1) = 1")
                .run("set(2, 2) = 2; about(12) = 4; start(0, 100) = BAD; start(16, 0) = UNKNOWN; set(0, 9) = BAD")
                .run("set(3, 0) = BAD; about(12) = 4; write(86); wipe(); see(0, 0); unsee(); keep(0); seed(3); drawn(1)")
                .run("judge(1, 10004); tried(0, 0); which(); fault(); share(2, true); chance(0, 0, true); about(12) = 4")
                .run("undo() = 3; undo() = 2; undo() = 1; undo() = 0; undo() = LATE; about(12) = 0");
    }

    private static void fourteenActs() {
        edge("Acts, slots", "The latest 14 acts are remembered");
        for (int acts = 0; acts <= 31; acts++) {
            Script x = fresh();
            for (int k = 1; k <= acts; k++) {
                x.run("start(5, " + k + ")");
            }
            int remembered = Math.min(acts, 14);
            x.run("about(12) = " + remembered);
            for (int k = 1; k <= remembered; k++) {
                int before = acts - k == 0 ? 6 : acts - k;
                x.run("undo() = " + (remembered - k) + "; address(5, 1) = " + before);
            }
            x.run("undo() = LATE");
        }
        // Each act of another place, and those in the middle are forgotten with it.
        Script x = fresh();
        for (int a = 0; a <= 15; a++) {
            x.run("start(" + a + ", " + -a + ")");
        }
        x.run("set(0, 0); set(1, 0); set(2, 4); about(12) = 14; undo() = 13; about(3) = 2; undo() = 12; about(2) = 1");
        x.run("undo() = 11; about(1) = 8");
        for (int a = 15; a >= 5; a--) {
            x.run("address(" + a + ", 0) = " + (100 - a) + "; undo() = " + (a - 5));
            x.run("address(" + a + ", 0) = " + (a + 101) + "; address(" + (a - 1) + ", 0) = " + (101 - a));
        }
        x.run("undo() = LATE; address(0, 0) = 100; address(4, 0) = 96; address(5, 0) = 106");
    }

    private static void lastActIsUndone() {
        edge("Acts, slots", "the last one can be undone, which makes start values, base, known and width "
                + "as they were before it.");
        of("V812lA0lA1lA2lA3sB0asB1bsB2csB3d", "start(0, 50) = 101; set(2, 4) = 2; set(1, 0) = 1; set(0, 3) = 8")
                .run("start(0, -50) = 150; undo() = 4; address(0, 0) = 150; about(1) = 3; undo() = 3; about(1) = 8")
                .run("about(2) = 0; undo() = 2; about(2) = 1; about(3) = 4; about(6) = 2; undo() = 1; about(3) = 2")
                .run("about(6) = 4; address(8, 2) = 50; set(2, 4) = 2; undo() = 1; about(3) = 2; undo() = 0")
                .run("address(0, 0) = 101; address(8, 2) = 1; undo() = LATE; depends(0, 4) = 1; instruction(4, 4) = 1")
                .run("about(7) = 255; about(5) = 4; instruction(0, 3) = 0");
    }

    // ---- error codes

    private static void errorCodes() {
        edge("Acts, slots", "UNKNOWN (-1): there is no such address, instruction or slot.");
        fresh().run("address(16, 0) = -1; start(-1, 0) = -1; see(16, 0) = -1; instruction(0, 0) = -1; depends(0, 0) = -1")
                .run("share(0, false) = -1; keep(2) = -1; again(-1) = -1");
        edge("Acts, slots", "BAD (-2): another argument is out of its range.");
        of("V812k1", "write(256) = -2; about(15) = -2; instruction(0, 6) = -2; address(0, 3) = -2; start(0, 100) = -2")
                .run("set(0, 9) = -2; set(3, 0) = -2; tried(0, 7) = -2; judge(4, 0) = -2; chance(100, 0, true) = -2")
                .run("chance(0, 11, false) = -2; drawn(11) = -2");
        edge("Acts, slots", "LATE (-3): the call is not possible, as the method says.");
        fresh().run("block() = -3; undo() = -3; again(0) = -3");
        of("V812k1" + "sA0a".repeat(7), "share(0, true) = -3; share(1, true) = -3; chance(0, 0, true) = -3");
        edge("Acts, slots", "FULL (-4): a limit is reached.");
        fresh().run("write(0); ".repeat(80) + "write(0) = -4; " + "see(0, 0); ".repeat(6) + "see(0, 0) = -4");
    }

    private static void firstErrorThatApplies() {
        edge("Acts, slots", "Each @return names them in the order in which they are checked; "
                + "the first that applies is returned.");
        Script x = of("V812lA0lA1sB0asB1b", "instruction(4, 6) = UNKNOWN; instruction(3, 6) = BAD");
        x.run("address(16, 3) = UNKNOWN; address(15, 3) = BAD; start(16, 100) = UNKNOWN; start(15, 100) = BAD");
        x.run("see(0, 0); see(0, 0); see(0, 0); see(0, 0); see(0, 0); see(0, 0) = 6; see(16, 0) = UNKNOWN");
        x.run("see(15, 0) = FULL; share(4, true) = UNKNOWN; share(0, true) = LATE; again(2) = UNKNOWN; again(1) = LATE");
        x = of("V812k1sA0asA1asA2asA3asA4asA5asA6a", "chance(100, 0, true) = BAD; chance(0, 11, true) = BAD");
        x.run("chance(0, 0, true) = LATE; share(8, true) = UNKNOWN; share(1, true) = LATE");
        x = fresh();
        for (int k = 1; k <= 80; k++) {
            x.run("write(0)");
        }
        x.run("write(256) = BAD; write(255) = FULL");
    }

    private static void failedCallsChangeNothing() {
        edge("Acts, slots", "A failed call changes nothing.");
        String state = "start(0, 50); set(0, 7); keep(1); set(0, 8); set(1, 0); set(1, 1); see(4, 1); seed(3)";
        String text = "; wipe(); write(86); write(57)";
        failing("V812lA0lA1lB0lB1+ad+bcsA4esA5fsB4csB5d", state + text,
                "write(-1) = BAD; write(256) = BAD; block() = LATE; about(-1) = BAD; about(15) = BAD; "
                + "instruction(-1, 0) = UNKNOWN; instruction(10, 0) = UNKNOWN; instruction(0, 6) = BAD; "
                + "address(16, 0) = UNKNOWN; address(0, 3) = BAD; depends(0, 10) = UNKNOWN; depends(-1, 0) = UNKNOWN; "
                + "start(-1, 0) = UNKNOWN; start(16, 0) = UNKNOWN; start(0, 100) = BAD; start(0, -100) = BAD; "
                + "set(-1, 2) = BAD; set(3, 2) = BAD; set(0, 9) = BAD; set(1, 2) = BAD; set(2, 3) = BAD; "
                + "tried(2, 0) = BAD; tried(0, 7) = BAD; judge(0, 10004) = BAD; judge(4, 10004) = BAD; "
                + "judge(1, 110004) = BAD; judge(1, -10004) = BAD; judge(2, 1000400000) = 1; see(16, 0) = UNKNOWN; "
                + "share(-1, true) = UNKNOWN; share(0, true) = LATE; chance(100, 0, true) = BAD; chance(0, 11, true) = BAD; "
                + "drawn(0) = BAD; drawn(11) = BAD; keep(2) = UNKNOWN; keep(-1) = UNKNOWN; again(2) = UNKNOWN; "
                + "again(-1) = UNKNOWN; again(0) = LATE");
        failing("V812k1lA0lA1sA0asA1asA2asA3asA4asB5bsB6c", "see(0, 1); see(0, 1); see(0, 1); see(0, 1); see(0, 1); "
                + "see(0, 1); keep(0)" + "; write(107)".repeat(40),
                "write(107) = FULL; see(0, 2) = FULL; undo() = LATE; again(1) = LATE; share(3, true) = LATE; "
                + "chance(0, 0, true) = LATE; share(10, true) = UNKNOWN; block() = LATE");
    }

    /** What is answered after a failed call is what is answered without it, to questions and to acts. */
    private static void failing(String block, String state, String failing) {
        String after = "about(0); about(1); about(2); about(3); about(5); about(6); about(7); about(8); about(11); "
                + "about(12); about(13); about(14); instruction(0, 1); instruction(3, 3); instruction(4, 4); "
                + "instruction(5, 5); address(0, 0); address(4, 1); address(5, 2); depends(0, 6); tried(0, 4); tried(1, 4); "
                + "which(); share(6, true); chance(2, 5, true); fault(); judge(1, 60007); seed(9); drawn(4); seed(9); "
                + "undo(); about(2); undo(); about(1); undo(); about(1); address(0, 0); undo(); undo(); address(0, 0); "
                + "again(1); about(1); about(12); start(0, 9); again(0); address(0, 0); about(3); keep(1); write(48); "
                + "see(0, 0); wipe(); fault(); unsee(); which()";
        for (String call : failing.split("; ")) {
            Script with = of(block, state).run(call).run(call);
            Script without = of(block, state);
            for (String question : after.split("; ")) {
                CHECKS.due(question + " behind " + call, with.answer(question), without.answer(question));
            }
        }
    }

    private static void noneIfNoError() {
        edge("Acts, slots", "it means \"there is none\", and it is returned only if no error applies.");
        of("V812lA0lB0sA0b", "instruction(0, 1) = NONE; instruction(0, 2) = NONE; instruction(3, 1) = UNKNOWN")
                .run("about(9) = NONE; about(10) = NONE; about(15) = BAD; tried(0, 0) = NONE; tried(0, 7) = BAD")
                .run("tried(2, 0) = BAD; judge(1, 30000) = NONE; judge(1, 130000) = BAD; fault() = NONE");
    }

    private static void lowestTerms() {
        edge("Acts, slots", "Fractions are in lowest terms with a positive denominator (0 is 0 / 1).");
        shares("V812lA0lA1*aa*bbsA4csA5dsB7a", 4, "7/6 7/6 -1/3");
        shares("V812k1sA0asA1asA2asA3asA4asA5a", 1, "0/1 0/1 0/1 0/1 0/1 0/1");
        of("V812lA0lA1sB0asB1b", "chance(2, 2, true) = 16; chance(2, 2, false) = 25; chance(3, 2, true) = 0")
                .run("chance(3, 2, false) = 1; chance(0, 2, true) = 1; chance(0, 2, false) = 1")
                .run("chance(2, 0, true) = 1; chance(2, 0, false) = 1; chance(2, 10, true) = 0; chance(2, 10, false) = 1");
    }

    private static void bitMasks() {
        edge("Acts, slots", "Sets are bit masks.");
        of("V812" + "k1".repeat(16), "which() = 65535; about(7) = 0");
        of("V812lA0lA1lB0lB1lA2lA3lB2lB3+ac+bd+eg+fh*ik*jlsA4msA5n", "about(7) = 65535; which() = 65535");
        fresh().run("which() = 0; about(7) = 0");
    }

    public static void main(String[] args) {
        atMost512Calls();
        constants();
        addresses();
        rowA();
        rowB();
        knownAndWidth();
        sixteenInstructions();
        wrapAround();
        stopsHaveNoValue();
        kinds();
        quotients();
        operands();
        atMost80Characters();
        header();
        instructionsOfTheText();
        loadsOfTheText();
        constantsOfTheText();
        operationsAndStoresOfTheText();
        lettersOfOperands();
        firstWrongCharacter();
        seventeenthInstruction();
        noEarlierValue();
        notComplete();
        runBeginsWithStartValues();
        stopAtQuotient();
        runUsesBase();
        onlyLaterOnes();
        operandFollowed();
        sameRowSameCell();
        differentRows();
        quotientsKeepTheirOrder();
        followsFollowed();
        packOfDifferentOnes();
        packOfOneKind();
        packOfIndependentOnes();
        packOfNeighbours();
        firstBundleFirst();
        takenByAnEarlierTree();
        loadsHaveNoOperands();
        exchangedOperands();
        packAgain();
        sameOrConstants();
        costOfTheWidth();
        gain();
        countsOnce();
        rowAFirst();
        cellsInAscendingOrder();
        leastStoreInNoKeptPack();
        noStoreForALane();
        gainAboveZero();
        scheduledTogether();
        numberedOnOrNone();
        leastNodeFirst();
        noNodeRemains();
        packedRun();
        cost();
        gainAsItWas();
        nothingElseIsOmitted();
        omittedFollowsNothing();
        omittedUsesNothing();
        omittedInNoRoot();
        omittedIsScheduled();
        whatAnActIs();
        fourteenActs();
        lastActIsUndone();
        errorCodes();
        firstErrorThatApplies();
        failedCallsChangeNothing();
        noneIfNoError();
        lowestTerms();
        bitMasks();
        CHECKS.end();
    }
}
