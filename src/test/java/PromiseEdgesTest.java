import java.math.BigInteger;

/** What the document's promises say of boundary cases, sentence by sentence and in its order. */
final class PromiseEdgesTest {
    private static final Checks CHECKS = new Checks("edges of the promises");

    // Two loads that are stored side by side: one tree of two packs.
    private static final String COPY = "V812lA0lA1sB0asB1b";
    private static final String COPY4 = "V812lA0lA1lA2lA3sB0asB1bsB2csB3d";
    private static final String SIX_STORES = "V812k1sA0asA1asA2asA3asA4asA5a";
    private static final String SIX_COPIES = "V812lA0lA1lA2lA3lA4lA5sB0asB1bsB2csB3dsB4esB5f";

    private static void edge(int promise, String words) {
        CHECKS.edge("Promise " + promise, words);
    }

    private static Script fresh() {
        return new Script(CHECKS);
    }

    private static Script of(String text, String calls) {
        return fresh().block(text).run(calls);
    }

    private static Script full() {
        Script x = fresh();
        for (int k = 1; k <= 80; k++) {
            x.run("write(107) = " + k);
        }
        return x;
    }

    // ---- 1 to 3: a new object, write, wipe

    private static void newObject() {
        edge(1, "Creates an object with an empty block and an empty text.");
        fresh().run("about(0) = 0; about(1) = 8; about(2) = 1; about(3) = 2; about(4) = 0; about(5) = 0; about(6) = 0")
                .run("about(7) = 0; about(8) = 0; about(9) = NONE; about(10) = NONE; about(11) = 2; about(12) = 0")
                .run("about(13) = 0; about(14) = 0");
        fresh().run("wipe() = 0");
        fresh().run("fault() = 0; block() = LATE");
        fresh().run("instruction(0, 0) = UNKNOWN; depends(0, 0) = UNKNOWN; share(0, true) = UNKNOWN; which() = 0");
        fresh().run("undo() = LATE; again(0) = LATE; again(1) = LATE; unsee() = 0; seed(1) = 0; tried(1, 6) = NONE");
        // Two objects have nothing in common.
        Script x = of(COPY, "start(0, 9) = 101; see(0, 0) = 1; seed(8) = 0; keep(0) = 2");
        fresh().run("about(0) = 0; address(0, 0) = 101; unsee() = 0; seed(9) = 0; again(0) = LATE; about(14) = 0");
        x.run("about(0) = 4; address(8, 1) = 9; seed(7) = 8; about(14) = 18; about(13) = 1; again(0) = 2");
    }

    private static void lettersOfWrite() {
        edge(2, "- `letter`: 0 to 255");
        fresh().run("write(0) = 1; write(255) = 2; write(-1) = BAD; write(256) = BAD; write(MIN) = BAD; write(MAX) = BAD")
                .run("write(65622) = BAD; write(-170) = BAD; about(14) = 2; fault() = 0");
    }

    private static void newLengthOrFull() {
        edge(2, "Returns the new length of the text; BAD; FULL if it already has 80 characters.");
        full().run("write(0) = FULL; write(255) = FULL; write(256) = BAD; write(-1) = BAD; about(14) = 80; fault() = 0")
                .run("wipe() = 80; write(107) = 1");
        Script x = full();
        x.run("wipe()");
        for (int k = 1; k <= 80; k++) {
            x.run("write(107) = " + k);
        }
        x.run("write(107) = FULL");
    }

    private static void wipeOfAnEmptyText() {
        edge(3, "Makes the text empty.");
        fresh().text(COPY).run("wipe() = 18; about(14) = 0; fault() = 0; block() = LATE; wipe() = 0; write(86) = 1")
                .run("fault() = 1");
        of(COPY, "wipe(); about(0) = 4; about(6) = 2");
    }

    private static void lengthOfWipe() {
        edge(3, "Returns the length that it had.");
        fresh().run("wipe() = 0; wipe() = 0; write(256); wipe() = 0; write(255); wipe() = 1; wipe() = 0");
        full().run("write(0); wipe() = 80; wipe() = 0");
    }

    // ---- 4, 5: fault, block

    private static void noneIfComplete() {
        edge(4, "Returns the fault; NONE if the text is complete.");
        fresh().text("V812").run("fault() = NONE").text("V81").run("fault() = 3").text("V813").run("fault() = 3");
        fresh().text("V812").run("write(107); fault() = 5; write(48); fault() = NONE; write(97); fault() = 6");
        fresh().text("V812" + "k0".repeat(16)).run("fault() = NONE; write(107); fault() = 36; write(48); fault() = 36");
        // What stands in a text that was wiped does not count.
        fresh().text("V812k1").text("V8").run("fault() = 2").text("V812").run("fault() = NONE; block() = 0");
        fresh().text("V812k1+aa").text("V812+aa").run("fault() = 4");
    }

    private static void blockWithItsSettings() {
        edge(5, "Makes the block that the text describes, with its base, known and width, in place of the present one.");
        Script x = of("V004k5k6", "about(0) = 2; about(1) = 0; about(2) = 0; about(3) = 4; set(2, 2) = 4");
        x.block(COPY).run("about(0) = 4; about(1) = 8; about(2) = 1; about(3) = 2; about(5) = 2; about(7) = 15");
        x.block("V812lA0+aa+aa+aa").run("about(6) = 0; depends(2, 3) = 0; instruction(3, 3) = 3; instruction(3, 4) = 1");
        x.block("V812").run("about(0) = 0; about(4) = 0; about(6) = 0; instruction(0, 0) = UNKNOWN; which() = 0");
        x.block("V814" + COPY4.substring(4)).run("about(6) = 2; about(5) = 2; about(8) = 1");
        String[] longer = {SIX_COPIES, COPY4, "V812k1" + "sA0a".repeat(15), "V812lA0" + "/aa".repeat(15),
            "V812lB0lB1+ba+ab*ca*dbsB0csB1dsA6esA7f"};
        String[] shorter = {COPY, "V812", "V812k1sB0a", "V812lA0lA1+aa+bbsA4csA5dsB0a", "V402lA0k0/absB0a"};
        for (String former : longer) {
            for (String text : shorter) {
                asIfAlone(former, text);
            }
        }
    }

    /** A block answers as it does in a new object, whatever block was there before. */
    private static void asIfAlone(String former, String text) {
        Script x = of(former, "share(6, true); chance(1, 5, true); address(0, 2)").block(text);
        Script alone = of(text, "about(0)");
        for (int k = 0; k <= 14; k++) {
            same(x, alone, "about(" + k + ")");
        }
        for (int i = 0; i <= 8; i++) {
            for (int k = 0; k <= 5; k++) {
                same(x, alone, "instruction(" + i + ", " + k + ")");
            }
            same(x, alone, "share(" + i + ", true)");
            same(x, alone, "depends(0, " + i + ")");
        }
        for (int a = 0; a <= 15; a++) {
            same(x, alone, "address(" + a + ", 1)");
            same(x, alone, "address(" + a + ", 2)");
        }
        for (int c = 0; c <= 6; c++) {
            same(x, alone, "tried(0, " + c + ")");
            same(x, alone, "tried(1, " + c + ")");
        }
        same(x, alone, "which()");
        same(x, alone, "chance(1, 5, true)");
        same(x, alone, "chance(2, 3, true)");
        same(x, alone, "drawn(5)");
    }

    private static void same(Script x, Script alone, String question) {
        CHECKS.due(question, x.answer(question), alone.answer(question));
    }

    private static void startValuesAsAtFirst() {
        edge(5, "The start values are as at first, no acts are remembered, and the slots are empty.");
        Script x = of(COPY, "start(0, 77); start(15, -5); set(2, 4); keep(0) = 4; keep(1) = 4; block() = 4");
        for (int a = 0; a <= 15; a++) {
            x.run("address(" + a + ", 0) = " + (a + 101));
        }
        x.run("about(12) = 0; undo() = LATE; again(0) = LATE; again(1) = LATE; about(3) = 2; address(8, 1) = 1");
        x.run("address(8, 2) = 1; about(6) = 2; start(3, 0) = 104; undo() = 0; undo() = LATE; keep(1) = 2; again(0) = LATE");
    }

    private static void whatStays() {
        edge(5, "The text, the observations and the random number stay.");
        Script x = of(COPY, "see(8, 1) = 1; see(9, 9) = 2; seed(-5) = 0; block() = 4; about(14) = 18; about(13) = 2");
        x.run("seed(0) = -5; block() = 4; seed(0) = 0; fault() = NONE");
        x.text("V812k1sB0a").run("block() = 2; about(13) = 2; which() = 0; see(0, 0) = 3; unsee() = 3; wipe() = 10");
    }

    private static void lateIfTheTextHasAFault() {
        edge(5, "Returns the number of instructions; LATE if the text has a fault.");
        fresh().run("block() = LATE").text("V812").run("block() = 0").text("V812k1").run("block() = 1");
        fresh().text("V812" + "k1".repeat(16)).run("block() = 16; write(107); block() = LATE; about(0) = 16");
        Script x = of(COPY, "start(0, 9); keep(0); write(33); block() = LATE; about(0) = 4; about(6) = 2; again(0) = 2");
        x.text("V304k5k6k").run("block() = LATE; about(1) = 8; address(8, 1) = 9; instruction(0, 0) = 0; write(55)");
        x.run("block() = 3; about(1) = 3; instruction(0, 0) = 1");
    }

    // ---- 6 to 9: about, instruction, address, depends

    private static void whatOfAbout() {
        edge(6, "- `what`: 0 instructions, 1 base, 2 known, 3 width, 4 cost, 5 packed cost, 6 kept packs, "
                + "7 the set of the instructions in kept packs, 8 trees whose packs are kept");
        Script x = of("V512k9" + COPY4.substring(4).replace("d", "e").replace("c", "d").replace("sB1b", "sB1c")
                .replace("sB0a", "sB0b"), "about(0) = 9; about(1) = 5; about(2) = 1; about(3) = 2; about(4) = 8");
        x.run("about(5) = 4; about(6) = 4; about(7) = 510; about(8) = 2; about(13) = 0; about(14) = 34");
        x.run("about(-1) = BAD; about(15) = BAD; about(16) = BAD; about(MIN) = BAD; about(MAX) = BAD");
        x.run("set(2, 4) = 2; about(5) = 2; about(6) = 2; about(7) = 510; about(8) = 1; about(4) = 8");
    }

    private static void stops() {
        edge(6, "Returns that number; NONE for 9 and 10 if the run does not stop; BAD.");
        fresh().run("about(9) = NONE; about(10) = NONE");
        of("V812k0/aa", "about(10) = 1; about(9) = 1");
        of("V812k0k1/ba/bb", "about(9) = 2; about(10) = 2");
        of("V812lA0lA1/ab", "about(9) = NONE; start(1, 0); about(9) = 2; about(10) = 2; undo(); about(10) = NONE");
        of("V812" + "k0".repeat(15) + "/aa", "about(9) = 15; about(10) = 15; about(0) = 16");
        of("V812k0k1/ba/aa", "about(9) = 2; about(9) = 2; about(14) = 14; about(15) = BAD");
    }

    private static void bestWidth() {
        edge(6, "11 the width with which the packed cost is least (2 if both are equal)");
        fresh().run("about(11) = 2; set(2, 4) = 2; about(11) = 2; about(3) = 4");
        of(COPY, "about(11) = 2; set(2, 4); about(11) = 2; about(5) = 4; about(6) = 0");
        of(COPY4, "about(11) = 4; about(5) = 4; about(6) = 4; set(2, 4); about(11) = 4; about(5) = 2");
        // Four lanes pay, but only as much as two: three constants and a load of each four.
        of("V812k1k2k3k4sB0asB1bsB2csB3d", "about(11) = 4; about(5) = 4; set(2, 4); about(5) = 2");
        of("V812lA0lA1sB0asB1bk5k6k7k8", "about(11) = 2");
        of("V814lA0lA1lA2lA3sB0asB1bsB2csB3dsB7asB7bsB7csB7d", "about(5) = 10; about(11) = 4; set(2, 2); about(5) = 12");
        of("V814lA0lA1lA2lA3sB0asB1bsB2csB3dsB7asB7b", "about(5) = 6; set(2, 2); about(5) = 9; about(11) = 4");
        // Two lanes pay as much as four.
        of("V812k1k2k3k4sB0asB1bsB2csB3dlA0lA1sA4isA5j", "about(5) = 6; set(2, 4); about(5) = 6; about(11) = 2");
        String stored = "V812lA0lA1lA2lA3sB0asB1bsB2csB3dsB7alA4lA5sA0jsA1k";
        of(stored, "about(5) = 8; about(11) = 2; set(2, 4); about(5) = 8; about(11) = 2");
        of(stored + "sB6j", "about(5) = 10; about(11) = 4; set(2, 4); about(5) = 9; about(11) = 4");
        // The other settings are the present ones.
        of("V812lA0sB0alA1sB1clA2sB2elA3sB3g", "about(11) = 4; set(1, 0); about(11) = 2; set(1, 1); about(11) = 4")
                .run("set(0, 1); about(11) = 2; set(0, 2); about(5) = 4; about(11) = 2; undo(); undo(); about(11) = 4");
    }

    private static void countsOfAbout() {
        edge(6, "12 remembered acts, 13 observations, 14 characters of the text");
        Script x = fresh();
        for (int k = 1; k <= 16; k++) {
            x.run("start(0, " + k + "); about(12) = " + Math.min(k, 14));
            x.run("see(0, 0); about(13) = " + Math.min(k, 6));
            x.run("write(0); about(14) = " + k);
        }
        x.run("undo() = 13; about(12) = 13; unsee() = 6; about(13) = 0; wipe() = 16; about(14) = 0");
    }

    private static void whatOfInstruction() {
        edge(7, "- `what`: 0 its kind, 1 the number of its kept pack, 2 its lane there, "
                + "3 the index of its node in the schedule");
        String[] rows = {"0000226666", "2244110033", "0101010101", "0011223344"};
        Script x = of("V812lA0lA1lB0lB1+ad+bcsA4esA5fsB4csB5d", "about(6) = 5");
        for (int what = 0; what < rows.length; what++) {
            for (int i = 0; i < 10; i++) {
                x.run("instruction(" + i + ", " + what + ") = " + rows[what].charAt(i));
            }
        }
        x.block("V812lA0k1+ab-ab*ab/absA0c");
        for (int i = 0; i < 7; i++) {
            x.run("instruction(" + i + ", 0) = " + i + "; instruction(" + i + ", 1) = NONE");
            x.run("instruction(" + i + ", 2) = NONE; instruction(" + i + ", 3) = " + i);
        }
    }

    private static void unknownInstruction() {
        edge(7, "Returns that value; NONE for 1 and 2 if it is in no kept pack; UNKNOWN; BAD.");
        Script x = of("V812lA0lA1sB0asB1blA7", "instruction(0, 1) = 1; instruction(1, 1) = 1; instruction(2, 1) = 0");
        x.run("instruction(0, 2) = 0; instruction(1, 2) = 1; instruction(3, 2) = 1; instruction(4, 1) = NONE");
        x.run("instruction(4, 2) = NONE; instruction(5, 0) = UNKNOWN; instruction(-1, 0) = UNKNOWN");
        x.run("instruction(MIN, 1) = UNKNOWN; instruction(MAX, 6) = UNKNOWN; instruction(4, 6) = BAD");
        x.run("instruction(0, -1) = BAD; instruction(0, MIN) = BAD; instruction(0, MAX) = BAD");
        x.run("set(2, 4); instruction(0, 1) = NONE; instruction(3, 2) = NONE; instruction(2, 3) = 2");
        fresh().run("instruction(0, 1) = UNKNOWN; instruction(0, 9) = UNKNOWN");
        of("V814" + COPY4.substring(4), "instruction(3, 2) = 3; instruction(7, 2) = 3; instruction(7, 1) = 0");
    }

    private static void dependencesOfInstruction() {
        edge(7, "4 the number of instructions on which it depends");
        of(COPY, "instruction(0, 4) = 0; instruction(1, 4) = 0; instruction(2, 4) = 1; instruction(3, 4) = 1")
                .run("set(1, 0); instruction(2, 4) = 2; instruction(3, 4) = 2; set(0, 0); instruction(2, 4) = 2")
                .run("set(1, 1); instruction(2, 4) = 1; set(0, 1); instruction(2, 4) = 2; instruction(3, 4) = 1");
        of("V812" + "k1".repeat(15) + "+aa", "instruction(15, 4) = 1; instruction(14, 4) = 0");
    }

    private static void valueOfInstruction() {
        edge(7, "5 its value in the run (0 if it has none or is not carried out)");
        of("V812k5k0sA0a/abk7lA0", "instruction(0, 5) = 5; instruction(2, 5) = 0; instruction(3, 5) = 0")
                .run("instruction(4, 5) = 0; instruction(5, 5) = 0; about(9) = 3");
        // Nothing is left of a run that went on.
        of("V812lA0/aak7", "instruction(2, 5) = 7; start(0, 0); instruction(2, 5) = 0; instruction(1, 5) = 0; undo()")
                .run("instruction(1, 5) = 1; instruction(2, 5) = 7");
    }

    private static void contentsOfAddress() {
        edge(8, "- `what`: 0 the start value plus 100, 1 the content after the run, 2 the content after the packed run");
        Script x = of(COPY, "start(0, -99) = 101; address(0, 0) = 1; address(8, 1) = -99; address(8, 2) = -99");
        x.run("address(8, 0) = 109; start(0, 99) = 1; address(0, 0) = 199; address(8, 2) = 99; address(0, 1) = 99");
        x.run("start(0, 0); address(0, 0) = 100; address(8, 1) = 0; address(9, 1) = 2; address(15, 2) = 16");
    }

    private static void unknownAddress() {
        edge(8, "Returns that value; UNKNOWN; BAD.");
        fresh().run("address(0, 1) = 1; address(15, 2) = 16; address(16, 0) = UNKNOWN; address(-1, 0) = UNKNOWN")
                .run("address(MIN, 0) = UNKNOWN; address(MAX, 0) = UNKNOWN; address(0, -1) = BAD; address(15, 3) = BAD")
                .run("address(0, MAX) = BAD; address(0, MIN) = BAD; address(16, 3) = UNKNOWN");
    }

    private static void dependsOfUnknown() {
        edge(9, "Returns 1 if it does, 0 if not; UNKNOWN.");
        of(COPY, "depends(0, 2) = 1; depends(2, 0) = 0; depends(0, 0) = 0; depends(0, 3) = 0; depends(3, 3) = 0")
                .run("depends(-1, 0) = UNKNOWN; depends(0, -1) = UNKNOWN; depends(4, 3) = UNKNOWN")
                .run("depends(3, 4) = UNKNOWN; depends(MIN, MAX) = UNKNOWN; depends(16, 0) = UNKNOWN")
                .run("depends(0, 32) = UNKNOWN; depends(32, 2) = UNKNOWN");
        fresh().run("depends(0, 0) = UNKNOWN");
    }

    // ---- 10 to 12: start, set, undo

    private static void limitsOfStart() {
        edge(10, "- `address`: 0 to 15 - `v`: -99 to 99");
        fresh().run("start(0, -99) = 101; start(0, 99) = 1; start(15, 99) = 116; start(15, -99) = 199")
                .run("start(0, 100) = BAD; start(0, -100) = BAD; start(15, MIN) = BAD; start(15, MAX) = BAD")
                .run("start(16, 0) = UNKNOWN; start(-1, 0) = UNKNOWN; start(MIN, 0) = UNKNOWN; start(MAX, 0) = UNKNOWN");
    }

    private static void previousStartValue() {
        edge(10, "Returns the previous start value plus 100; UNKNOWN; BAD.");
        fresh().run("start(7, 0) = 108; start(7, 0) = 100; start(7, -99) = 100; start(7, 5) = 1; start(7, 99) = 105")
                .run("start(7, 1) = 199; undo(); start(7, 2) = 199; start(16, 100) = UNKNOWN; start(-1, -100) = UNKNOWN")
                .run("start(7, 100) = BAD; address(7, 0) = 102; about(12) = 6");
    }

    private static void limitsOfSet() {
        edge(11, "- `v`: the new value: 0 to 8; 0 or 1; 2 or 4");
        for (int v = -3; v <= 10; v++) {
            fresh().run("set(0, " + v + ") = " + (v >= 0 && v <= 8 ? 8 : -2));
            fresh().run("set(1, " + v + ") = " + (v == 0 || v == 1 ? 1 : -2));
            fresh().run("set(2, " + v + ") = " + (v == 2 || v == 4 ? 2 : -2));
            fresh().run("set(3, " + v + ") = BAD; set(-1, " + v + ") = BAD");
        }
        fresh().run("set(0, MIN) = BAD; set(0, MAX) = BAD; set(1, MIN) = BAD; set(1, MAX) = BAD; set(2, MIN) = BAD")
                .run("set(2, MAX) = BAD; set(MIN, 0) = BAD; set(MAX, 0) = BAD; set(-16, 2) = BAD; set(-17, 0) = BAD");
    }

    private static void previousSetting() {
        edge(11, "Returns the previous value; BAD.");
        fresh().run("set(0, 0) = 8; set(0, 8) = 0; set(0, 8) = 8; set(1, 0) = 1; set(1, 0) = 0; set(2, 4) = 2")
                .run("set(2, 4) = 4; set(2, 3) = BAD; about(3) = 4; about(12) = 7");
        // What follows from the settings follows at once.
        of(COPY4, "set(2, 4) = 2; about(6) = 2; about(5) = 2; instruction(3, 2) = 3; set(2, 2) = 4; about(6) = 4")
                .run("set(0, 1) = 8; about(6) = 4; depends(1, 4) = 1; address(1, 1) = 1; set(0, 8) = 1; depends(1, 4) = 0");
        of("V812lA0sB0alA1sB1c", "about(6) = 2; set(0, 1); about(6) = 0; set(0, 2); about(6) = 2; set(1, 0); about(6) = 0")
                .run("set(1, 1) = 0; about(5) = 2");
    }

    private static void lateIfNothingToUndo() {
        edge(12, "Returns how many acts are still remembered; LATE if there is none.");
        fresh().run("undo() = LATE; start(0, 5); undo() = 0; undo() = LATE; about(12) = 0");
        fresh().run("start(0, 100); start(16, 0); set(2, 3); undo() = LATE");
        Script x = fresh();
        for (int k = 0; k < 15; k++) {
            x.run("set(0, " + k % 9 + ")");
        }
        for (int k = 13; k >= 0; k--) {
            x.run("undo() = " + k + "; about(1) = " + k % 9);
        }
        x.run("undo() = LATE; about(1) = 0");
    }

    private static void undoneIsForgotten() {
        edge(12, "Undoes the last remembered act, which is not remembered any more then.");
        of(COPY4, "start(0, 40); set(2, 4); start(0, 41); undo() = 2; address(0, 0) = 140; start(0, 42) = 140; undo() = 2")
                .run("undo() = 1; about(3) = 2; about(6) = 4; address(0, 0) = 140; undo() = 0; address(0, 0) = 101");
    }

    // ---- 13, 14: tried, judge

    private static void limitsOfTried() {
        edge(13, "- `cell`: 0 to 8 - width");
        of(COPY, "tried(1, 0) = 102; tried(1, 6) = NONE; tried(1, 7) = BAD; tried(1, 8) = BAD; tried(1, -1) = BAD")
                .run("tried(0, 0) = NONE; tried(0, 6) = NONE; tried(0, 7) = BAD; tried(1, MIN) = BAD; tried(1, MAX) = BAD")
                .run("set(2, 4); tried(1, 4) = NONE; tried(1, 5) = BAD; tried(1, 6) = BAD; tried(0, 5) = BAD")
                .run("tried(0, 4) = NONE; tried(0, -1) = BAD");
        of("V812lA0lA1sB6asB7b", "tried(1, 6) = 102; tried(1, 5) = NONE");
        of("V814lA0lA1lA2lA3sB4asB5bsB6csB7d", "tried(1, 4) = 106; tried(1, 3) = NONE");
    }

    private static void rowsOfTried() {
        edge(13, "- `row`: 0 for row A, 1 for row B");
        of(COPY, "tried(1, 0) = 102; tried(0, 0) = NONE; tried(2, 0) = BAD; tried(-1, 0) = BAD; tried(MIN, 0) = BAD")
                .run("tried(MAX, 0) = BAD");
        of("V812lB0lB1sA0asA1b", "tried(0, 0) = 102; tried(1, 0) = NONE");
    }

    private static void triedWithNothingKept() {
        edge(13, "if no packs are kept (whether it can be scheduled or not).");
        // Each of the two trees is tried as if the other one were not kept.
        of("V812lA0lA1lA2sA4asA5bsB0bsB1c", "about(8) = 1; tried(1, 0) = 101; tried(0, 4) = 101");
        of("V812lA0lA1sB0asB1bsB1asB2b", "about(8) = 0; tried(1, 0) = 100; tried(1, 1) = 100");
        of("V812lA0sB0alB0lB1sA0csA1dlA1sB1g", "tried(0, 0) = 102; tried(1, 0) = 102; about(8) = 1");
        of("V812lA1lB1sB0asA0blB0lA0+fe+absA4gsA5h", "tried(0, 4) = 102; about(8) = 0");
    }

    private static void noneIfNoStores() {
        edge(13, "Returns the gain plus 100; NONE if there are no such stores or they are no pack; BAD.");
        fresh().run("tried(0, 0) = NONE; tried(1, 6) = NONE; tried(1, 7) = BAD");
        of("V812lA0lA1sB0asB2b", "tried(1, 0) = NONE; tried(1, 1) = NONE; tried(1, 2) = NONE");
        of("V812lA0sA1alA1sA2c", "tried(0, 1) = NONE; tried(0, 2) = NONE; tried(0, 0) = NONE");
        of("V802lA0sA1alB0sA2c", "tried(0, 1) = NONE; set(1, 1); tried(0, 1) = 99");
        // The most and the least of these: gains below 0 are told as well.
        of("V814lA0lA1lA2lA3*aa*bb*cc*ddsB4esB5fsB6gsB7h", "tried(1, 4) = 109");
        of("V814lA0lB0lA1lB1+aa+bb+cc+ddsA4esA5fsA6gsA7h", "tried(0, 4) = 98");
    }

    private static void commandsOfJudge() {
        edge(14, "- `n`: number of commands, 1 to 3");
        of(COPY, "judge(0, 0) = BAD; judge(4, 0) = BAD; judge(-1, 0) = BAD; judge(MIN, 0) = BAD; judge(MAX, 0) = BAD")
                .run("judge(0, 60002) = BAD; judge(4, 60002) = BAD; judge(1, 60002) = NONE; judge(2, 6000260002) = NONE")
                .run("judge(3, 600026000260002) = NONE; judge(3, 600026000260003) = 2; judge(3, 600026000360003) = 1")
                .run("judge(3, 600036000260002) = 0");
    }

    private static void digitsOfJudge() {
        edge(14, "BAD if n is out of its range, or row is negative or has more than 5 * n digits.");
        of(COPY, "judge(1, -1) = BAD; judge(3, LONGMIN) = BAD; judge(3, LONGMAX) = BAD; judge(1, -60002) = BAD")
                .run("judge(1, 99999) = 0; judge(1, 100000) = BAD; judge(2, 9999999999) = 0; judge(2, 10000000000) = BAD")
                .run("judge(3, 999999999999999) = 0; judge(3, 1000000000000000) = BAD; judge(1, 600020) = BAD")
                .run("judge(1, 4294967296) = BAD; judge(1, 0) = 0; judge(2, 0) = 0; judge(3, 0) = 0");
    }

    private static void leadingZeros() {
        edge(14, "the digits of all commands, the first command first (leading zeros count)");
        of(COPY, "judge(1, 60002) = NONE; judge(2, 60002) = 0; judge(3, 60002) = 0; judge(3, 6000260002) = 0")
                .run("judge(1, 2) = 0; judge(2, 6000200000) = 1; judge(2, 6000200002) = 1");
    }

    private static void settingsOfJudge() {
        edge(14, "d = 1, 2 and 3 (with i = 0) set the width, known and base, respectively, to j for the commands "
                + "that follow, and are wrong if i is not 0 or j is out of its range.");
        for (int j = 0; j <= 99; j++) {
            int width = j == 2 || j == 4 ? -9 : 0;
            int known = j <= 1 ? -9 : 0;
            int base = j <= 8 ? -9 : 0;
            fresh().run("judge(1, " + (10000 + j) + ") = " + width + "; judge(1, " + (20000 + j) + ") = " + known)
                    .run("judge(1, " + (30000 + j) + ") = " + base);
        }
        for (int d = 1; d <= 3; d++) {
            for (int i = 1; i <= 99; i += i < 10 ? 1 : 89) {
                fresh().run("judge(1, " + (10000 * d + 100 * i + (d == 1 ? 2 : 1)) + ") = 0");
            }
        }
        of(COPY4, "judge(2, 1000460002) = NONE; judge(2, 1000460004) = 1; judge(2, 6000410004) = NONE")
                .run("judge(3, 100041000260004) = NONE; judge(3, 100046000260004) = 2; judge(2, 3000140104) = NONE")
                .run("judge(2, 3000840104) = 1; judge(2, 2000040304) = NONE; judge(3, 200002000140304) = 2");
    }

    private static void dependencesOfJudge() {
        edge(14, "d = 4 says that instruction j depends on instruction i (both must exist)");
        of(COPY, "judge(1, 40002) = NONE; judge(1, 40003) = 0; judge(1, 40200) = 0; judge(1, 40000) = 0")
                .run("judge(1, 40103) = NONE; judge(1, 40004) = 0; judge(1, 40402) = 0; judge(1, 49902) = 0")
                .run("judge(1, 40099) = 0; judge(1, 43234) = 0");
        of("V812k1+aa+bbsA0clA0", "judge(1, 40002) = NONE; judge(1, 40004) = NONE; judge(3, 400034000440104) = NONE");
        of("V812" + "k1".repeat(15) + "+oo", "judge(1, 41415) = NONE; judge(1, 41315) = 0; judge(1, 41416) = 0");
        fresh().run("judge(1, 40000) = 0; judge(1, 40001) = 0");
    }

    private static void packsOfJudge() {
        edge(14, "d = 5 that instruction i exists and is in a kept pack if j is 1, and in none if j is 0");
        of("V812lA0lA1sB0asB1blA7", "judge(1, 50001) = NONE; judge(1, 50000) = 0; judge(1, 50301) = NONE")
                .run("judge(1, 50400) = NONE; judge(1, 50401) = 0; judge(1, 50500) = 0; judge(1, 50501) = 0")
                .run("judge(1, 51600) = 0; judge(1, 59900) = 0; judge(2, 1000450000) = NONE; judge(2, 1000450001) = 1");
        fresh().run("judge(1, 50000) = 0; judge(1, 50001) = 0");
    }

    private static void costOfJudge() {
        edge(14, "d = 6 (with i = 0) that the packed cost is j.");
        fresh().run("judge(1, 60000) = NONE; judge(1, 60001) = 0; judge(1, 60100) = 0; judge(1, 69900) = 0");
        of(COPY, "judge(1, 60002) = NONE; judge(1, 60004) = 0; judge(1, 60003) = 0; judge(1, 60102) = 0");
        of("V812lA0" + "+aa".repeat(15), "judge(1, 60016) = NONE; judge(1, 60015) = 0");
    }

    private static void everythingElseIsWrong() {
        edge(14, "Everything else is wrong, too.");
        for (int d : new int[] {0, 7, 8, 9}) {
            for (int rest : new int[] {0, 1, 2, 100, 202, 9999}) {
                of(COPY, "judge(1, " + (10000 * d + rest) + ") = 0");
            }
        }
        of(COPY, "judge(1, 50002) = 0; judge(1, 50099) = 0; judge(1, 50003) = 0; judge(2, 6000270000) = 1");
        of("V812lA0", "judge(1, 50002) = 0; judge(1, 50000) = NONE; judge(1, 50010) = 0");
    }

    private static void firstWrongCommand() {
        edge(14, "Returns the index (from 0) of the first command that is wrong; NONE if there is none;");
        of(COPY, "judge(1, 60002) = NONE; judge(1, 60003) = 0; judge(2, 6000260003) = 1; judge(2, 6000360002) = 0")
                .run("judge(2, 6000360003) = 0; judge(2, 6000260002) = NONE; judge(3, 600026000260003) = 2")
                .run("judge(3, 600026000360003) = 1; judge(3, 600036000360003) = 0; judge(3, 600036000260002) = 0")
                .run("judge(3, 600026000360002) = 1; judge(3, 600026000260002) = NONE; judge(3, 100032000330009) = 0")
                .run("judge(3, 100022000330009) = 1; judge(3, 100022000130009) = 2; judge(3, 100022000130008) = NONE");
    }

    private static void judgeChangesNothing() {
        edge(14, "Checks n commands one after the other, from the present state on; nothing is changed.");
        of(COPY4, "judge(3, 100042000030003) = NONE; about(1) = 8; about(2) = 1; about(3) = 2; about(5) = 4; about(6) = 4")
                .run("about(12) = 0; undo() = LATE; depends(0, 5) = 0; judge(1, 60004) = NONE; judge(2, 1000460002) = NONE")
                .run("judge(1, 60004) = NONE; set(2, 4); judge(1, 60002) = NONE; judge(2, 6000210002) = NONE")
                .run("about(3) = 4; about(5) = 2; address(8, 2) = 1");
    }

    // ---- 15 to 17: see, unsee, which

    private static void anyNumberIsSeen() {
        edge(15, "- `v`: any number");
        of("V812k8*aa*bb*cck2*be*dfsA0g", "see(0, MIN) = 1; which() = 0; unsee() = 1; see(15, MAX) = 1; which() = 0");
        // g is the least int, unless something on its way does nothing.
        of("V812k8*aa*bb*cck2*be*dfsA0gk1", "see(0, MIN) = 1; which() = 256; unsee(); see(0, 0); which() = 127")
                .run("unsee(); see(0, 1); which() = 128");
    }

    private static void sixObservations() {
        edge(15, "Returns the number of observations, this one included; UNKNOWN; FULL if there are already 6.");
        Script x = of(COPY, "see(16, 0) = UNKNOWN; see(-1, 0) = UNKNOWN; see(MIN, 0) = UNKNOWN; see(MAX, 0) = UNKNOWN");
        for (int k = 1; k <= 6; k++) {
            x.run("see(" + (k == 1 ? 0 : 15) + ", " + (k == 1 ? 1 : 16) + ") = " + k);
        }
        x.run("see(0, 77) = FULL; see(15, 16) = FULL; see(16, 0) = UNKNOWN; see(-1, 0) = UNKNOWN; about(13) = 6");
        x.run("which() = 15; unsee() = 6; see(0, 1) = 1");
    }

    private static void unseeOfNone() {
        edge(16, "Returns how many there were.");
        fresh().run("unsee() = 0; see(0, 0) = 1; unsee() = 1; unsee() = 0; see(0, 0); see(0, 0); see(0, 0); see(0, 0)")
                .run("see(0, 0); see(0, 0) = 6; see(0, 0) = FULL; unsee() = 6; unsee() = 0; about(13) = 0");
    }

    private static void unseeRemovesAll() {
        edge(16, "Removes all observations.");
        of(COPY, "see(0, 99); see(1, 99); which() = 0; unsee() = 2; which() = 15; see(9, 2) = 1; which() = 5");
    }

    private static void allObservationsAreTrue() {
        edge(17, "those for which all observations are true if they are not carried out in the run with the present state");
        of(COPY, "which() = 15; see(8, 9); which() = 4; see(9, 10); which() = 0; unsee(); see(8, 0); which() = 1")
                .run("start(0, 0); which() = 11; start(8, 0); which() = 15; undo(); undo(); which() = 1");
        // What stands in the way of a run is left out, too, and the last of six observations counts.
        of(COPY, "see(0, 1); see(0, 1); see(0, 1); see(0, 1); see(0, 1); which() = 15; see(9, 10); which() = 8");
        of("V412lB0sA0a", "see(0, 5); which() = 0; set(0, 0); which() = 0; unsee(); see(0, 1); which() = 2");
        fresh().run("which() = 0; see(0, 1); which() = 0");
        of("V812" + "k1".repeat(15) + "sA0a", "see(0, 0); which() = 1; unsee(); see(0, 1); which() = 65534")
                .run("see(1, 1); which() = 0");
    }

    private static void doesNotStopTheRun() {
        edge(17, "(their value is 0 then, and they do not stop the run).");
        of("V812k0k4/basA0c", "see(0, 0); which() = 4; unsee(); see(0, 1); which() = 11");
        // Left out, the divisor is 0 and stops the run; the quotient itself does not.
        of("V812k2k4/basA0bsA1c", "see(0, 1); which() = 9; unsee(); see(1, 2); which() = 25; unsee(); see(1, 0)")
                .run("which() = 6");
        of("V812k0/aa/aasA0a", "see(0, 0); which() = 0; about(9) = 1; unsee(); see(0, 1); which() = 15");
    }

    // ---- 18, 19: share, chance

    private static void lateIfNoStore() {
        edge(18, "Returns that part; UNKNOWN; LATE if it is no store, or there are more than 6 stores.");
        for (String upper : new String[] {"true", "false"}) {
            of(COPY, "share(0, " + upper + ") = LATE; share(1, " + upper + ") = LATE; share(2, " + upper + ") = 1")
                    .run("share(4, " + upper + ") = UNKNOWN; share(-1, " + upper + ") = UNKNOWN")
                    .run("share(MIN, " + upper + ") = UNKNOWN; share(MAX, " + upper + ") = UNKNOWN");
            of(SIX_COPIES, "share(6, " + upper + "); share(11, " + upper + "); share(0, " + upper + ") = LATE")
                    .run("share(12, " + upper + ") = UNKNOWN");
            of(SIX_COPIES + "sA0a", "share(6, " + upper + ") = LATE; share(12, " + upper + ") = LATE")
                    .run("share(0, " + upper + ") = LATE; share(13, " + upper + ") = UNKNOWN");
            of("V812k0" + "sA0a".repeat(15), "share(15, " + upper + ") = LATE; share(16, " + upper + ") = UNKNOWN");
            fresh().run("share(0, " + upper + ") = UNKNOWN");
        }
        of(SIX_STORES, "share(1, true) = 0; share(1, false) = 1; share(6, true) = 0; share(6, false) = 1");
    }

    private static void negativeNumerator() {
        edge(18, "- `upper`: true for the numerator (which may be negative), false for the denominator");
        of("V812lA0lA1*aa*bbsA4csA5dsB7a", "share(6, true) = -1; share(6, false) = 3; share(4, true) = 7")
                .run("share(4, false) = 6; share(5, true) = 7; share(5, false) = 6");
        of("V812lA0lA1k1sB0csB1bsB0a", "share(3, true) = -2; share(3, false) = 3");
        of("V812k1sA0a", "share(1, true) = 0; share(1, false) = 1");
    }

    private static void sharesAddUp() {
        edge(18, "if all stores are omitted at first and then added one by one, in each order with the same probability");
        of(COPY, "share(2, true) = 1; share(2, false) = 1; share(3, true) = 1; share(3, false) = 1");
        of("V812lA0lA1lA2sB0asB1bsB2c", "share(3, true) = 1; share(3, false) = 3; share(4, true) = 4")
                .run("share(4, false) = 3; share(5, true) = 1; share(5, false) = 3");
        for (String settings : new String[] {"V812", "V814", "V802", "V302"}) {
            for (String text : new String[] {SIX_COPIES, "V812lA0lA1*aa*bbsA4csA5dsB0asB1bsB2csB3d"}) {
                Script x = of(settings + text.substring(4), "about(0)");
                long sum = 0;
                for (int i = 0; i < 12; i++) {
                    boolean store = x.answer("instruction(" + i + ", 0)") == 6;
                    long under = store ? x.answer("share(" + i + ", false)") : 1;
                    sum += store ? x.answer("share(" + i + ", true)") * (720 / under) : 0;
                }
                // Together they are what all stores bring.
                CHECKS.due("720 times the shares of " + settings + text.substring(4), sum,
                        720 * (x.answer("about(4)") - x.answer("about(5)")));
            }
        }
        // They are of the present settings, and nothing is omitted after them.
        of(COPY4, "share(4, true) = 5; share(4, false) = 6; set(2, 4) = 2; share(4, true) = 3; share(4, false) = 2; set(0, 1); set(1, 0)")
                .run("share(4, true) = 3; about(5) = 2; about(6) = 2; about(7) = 255; undo(); undo(); undo()")
                .run("share(4, true) = 5; share(5, true) = 7; share(5, false) = 6");
        of(SIX_COPIES, "share(6, true) = 23; share(6, false) = 30; share(7, true) = 6; share(7, false) = 5")
                .run("about(12) = 0; about(5) = 6; about(6) = 6");
    }

    private static void limitsOfChance() {
        edge(19, "- `v`: 0 to 99 - `x`: 0 to 10");
        of(COPY, "chance(-1, 0, true) = BAD; chance(100, 0, true) = BAD; chance(0, -1, true) = BAD")
                .run("chance(0, 11, true) = BAD; chance(MIN, 0, true) = BAD; chance(MAX, 0, false) = BAD")
                .run("chance(0, MIN, false) = BAD; chance(0, MAX, false) = BAD; chance(99, 10, true) = 0")
                .run("chance(99, 0, false) = 1; chance(0, 0, true) = 1; chance(0, 10, false) = 1; chance(100, 11, true) = BAD");
    }

    private static void certainOmission() {
        edge(19, "if each store is omitted with the probability x / 10, independently.");
        of(COPY, "chance(0, 10, true) = 1; chance(1, 10, true) = 0; chance(1, 10, false) = 1; chance(2, 0, true) = 1")
                .run("chance(2, 0, false) = 1; chance(2, 1, true) = 81; chance(2, 1, false) = 100; chance(2, 9, true) = 1")
                .run("chance(2, 9, false) = 100; chance(2, 5, true) = 1; chance(2, 5, false) = 4; chance(0, 5, false) = 1");
        of(SIX_COPIES, "chance(6, 1, true) = 531441; chance(6, 1, false) = 1000000; chance(6, 9, true) = 1")
                .run("chance(6, 9, false) = 1000000; chance(0, 3, true) = 1; chance(0, 3, false) = 1");
        fresh().run("chance(0, 10, true) = 1; chance(0, 0, false) = 1; chance(1, 0, true) = 0; chance(1, 10, false) = 1");
    }

    private static void atLeast() {
        edge(19, "is at least v");
        of(COPY, "chance(0, 0, true) = 1; chance(1, 0, true) = 1; chance(2, 0, true) = 1; chance(3, 0, true) = 0");
        of(SIX_COPIES, "chance(6, 0, true) = 1; chance(7, 0, true) = 0; chance(5, 9, true) = 1; chance(5, 9, false) = 1000000");
    }

    private static void lateIfSevenStores() {
        edge(19, "Returns that part; BAD; LATE if there are more than 6 stores.");
        of(SIX_STORES, "chance(0, 3, true) = 1; chance(1, 3, true) = 0; chance(1, 3, false) = 1");
        of(SIX_STORES + "sA6a", "chance(0, 3, true) = LATE; chance(1, 3, false) = LATE; chance(100, 3, true) = BAD")
                .run("chance(0, 11, true) = BAD; chance(-1, 0, true) = BAD");
        of("V812k0" + "sA0a".repeat(15), "chance(0, 0, true) = LATE");
    }

    // ---- 20, 21: seed, drawn

    private static void anySeed() {
        edge(20, "Sets the random number x, which is 0 at first.");
        fresh().run("seed(LONGMIN) = 0; seed(LONGMAX) = LONGMIN; seed(-1) = LONGMAX; seed(0) = -1; seed(0) = 0");
        fresh().run("seed(4294967296) = 0; seed(1) = 4294967296");
    }

    private static void previousSeed() {
        edge(20, "Returns the previous value.");
        // From 0 on a run leaves the addend; the next one wraps around.
        fresh().run("drawn(1) = 0; seed(-7) = 1442695040888963407; seed(0) = -7; drawn(2) = 0; seed(0) = 1876011003808476466")
                .run("drawn(0); drawn(11); seed(5) = 0");
    }

    private static void limitsOfDrawn() {
        edge(21, "- `m`: 1 to 10");
        fresh().run("drawn(0) = BAD; drawn(11) = BAD; drawn(-1) = BAD; drawn(MIN) = BAD; drawn(MAX) = BAD; seed(0) = 0")
                .run("drawn(1) = 0; drawn(10) = 0; drawn(11) = BAD; drawn(0) = BAD");
    }

    private static void wrapAroundOfDrawn() {
        edge(21, "For each run x becomes x * 6364136223846793005 + 1442695040888963407 (long arithmetic that wraps around)");
        for (long seed : new long[] {0, 1, -1, Long.MAX_VALUE, Long.MIN_VALUE, 123456789012345L}) {
            for (int m = 1; m <= 10; m++) {
                BigInteger x = BigInteger.valueOf(seed);
                for (int run = 0; run < m; run++) {
                    x = next(x);
                }
                fresh().run("seed(" + seed + ") = 0; drawn(" + m + ") = 0; seed(0) = " + x.longValue());
            }
        }
    }

    private static BigInteger next(BigInteger x) {
        return x.multiply(new BigInteger("6364136223846793005")).add(new BigInteger("1442695040888963407"))
                .mod(BigInteger.ONE.shiftLeft(64));
    }

    /** The start value of an address in the run for which x became what it is. */
    private static int drawnStart(BigInteger x, int address) {
        return x.shiftRight(33 + address).intValue() % 16 & 15;
    }

    private static void drawnStartValues() {
        edge(21, "with v = (int) (x >>> 33) the start value of address k is (v >> k & 15) - 4.");
        // Each constant is stored into each address: it differs but for one of the 16 start values.
        for (int address = 0; address <= 15; address++) {
            String cell = address < 8 ? "A" + address : "B" + (address - 8);
            for (int digit = 0; digit <= 9; digit++) {
                BigInteger x = BigInteger.valueOf(digit);
                int due = 0;
                for (int run = 0; run < 10; run++) {
                    x = next(x);
                    due += (x.shiftRight(33 + address).longValue() & 15) - 4 == digit ? 0 : 1;
                }
                of("V812k" + digit + "s" + cell + "a", "seed(" + digit + "); drawn(10) = " + due);
            }
        }
        // Below 0: a sum of a start value with itself is stored over it, and differs unless it is 0.
        of("V812k0k4-absA0c", "seed(0); drawn(10) = " + differentFrom(-4)).run("seed(0) = " + afterTen().longValue());
    }

    private static int differentFrom(int value) {
        BigInteger x = BigInteger.ZERO;
        int different = 0;
        for (int run = 0; run < 10; run++) {
            x = next(x);
            different += (x.shiftRight(33).longValue() & 15) - 4 == value ? 0 : 1;
        }
        return different;
    }

    private static BigInteger afterTen() {
        BigInteger x = BigInteger.ZERO;
        for (int run = 0; run < 10; run++) {
            x = next(x);
        }
        return x;
    }

    private static void onlyTheRandomNumberChanges() {
        edge(21, "Makes m runs with random start values; only x is changed by this.");
        of(COPY, "start(0, 40); keep(0); see(8, 40) = 1; drawn(10); address(0, 0) = 140; address(8, 1) = 40")
                .run("address(15, 0) = 116; address(8, 2) = 40; about(12) = 1; about(13) = 1; which() = 10")
                .run("instruction(0, 5) = 40; again(0) = 2; address(0, 0) = 140; about(1) = 8; about(5) = 2");
    }

    private static void addressesThatDiffer() {
        edge(21, "Returns the number of addresses whose content after the run is not their start value, "
                + "summed over all runs; BAD.");
        fresh().run("drawn(10) = 0");
        of("V812lA0lA1", "drawn(10) = 0");
        of("V812lA0sA0a", "drawn(10) = 0");
        of("V812k0/aak9sA0c", "drawn(10) = 0");
        // 99 and more stand at no address at first, so every run counts every one of them.
        of("V812k9*aasA0bsB7b", "drawn(1) = 2; drawn(10) = 20");
        of("V812k9*aa" + "sA0bsA1bsA2bsA3bsA4bsA5bsA6bsA7b" + "sB0bsB1bsB2bsB3bsB4bsB5b",
                "drawn(10) = 140; drawn(1) = 14");
        of("V012k9*aasA0bsB0b", "drawn(3) = 3; set(0, 1); drawn(3) = 6");
    }

    // ---- 22, 23: keep, again

    private static void slotsOfKeep() {
        edge(22, "- `slot`: 0 or 1");
        fresh().run("keep(0) = 2; keep(1) = 2; keep(2) = UNKNOWN; keep(-1) = UNKNOWN; keep(MIN) = UNKNOWN")
                .run("keep(MAX) = UNKNOWN");
    }

    private static void widthOfKeep() {
        edge(22, "Returns the width; UNKNOWN.");
        fresh().run("keep(0) = 2; set(2, 4); keep(1) = 4; keep(0) = 4; set(2, 2); again(1) = 4; keep(2) = UNKNOWN");
    }

    private static void whatIsKept() {
        edge(22, "Keeps the start values, base, known and width in a slot.");
        Script x = of(COPY4, "start(0, -99); start(15, 99); set(0, 0); set(1, 0); set(2, 4); keep(0) = 4; start(0, 1)");
        x.run("start(15, 2); set(0, 8); set(1, 1); set(2, 2); keep(1) = 2; again(0) = 4; address(0, 0) = 1; about(1) = 0");
        x.run("address(15, 0) = 199; about(2) = 0; about(3) = 4; again(1) = 2; address(0, 0) = 101; address(15, 0) = 102");
        x.run("about(1) = 8; about(2) = 1; about(3) = 2; about(6) = 4; start(0, 7); keep(1) = 2; again(0) = 4; again(1) = 2");
        x.run("address(0, 0) = 107");
        // The text, the observations and the random number are not kept.
        of(COPY, "keep(0); see(0, 1); seed(5); wipe(); again(0) = 2; about(13) = 1; seed(0) = 5; about(14) = 0; about(0) = 4");
    }

    private static void lateIfNothingIsKept() {
        edge(23, "Returns the width then; UNKNOWN; LATE if nothing is kept there.");
        fresh().run("again(0) = LATE; again(1) = LATE; again(2) = UNKNOWN; again(-1) = UNKNOWN; again(MIN) = UNKNOWN")
                .run("again(MAX) = UNKNOWN; keep(0) = 2; again(1) = LATE; again(0) = 2; keep(1) = 2; set(2, 4); again(1) = 2");
        of(COPY, "start(0, 9); again(0) = LATE; about(12) = 1; address(0, 0) = 109; keep(2); keep(-1); again(0) = LATE")
                .run("again(1) = LATE; keep(1) = 2; again(0) = LATE; again(1) = 2");
    }

    private static void staysKept() {
        edge(23, "Restores what was kept in a slot, which stays kept.");
        of(COPY4, "set(2, 4); keep(0) = 4; set(2, 2); start(0, 9); again(0) = 4; start(0, 10); again(0) = 4")
                .run("address(0, 0) = 101; about(3) = 4; about(6) = 2; set(2, 2); about(6) = 4; again(0) = 4; about(6) = 2")
                .run("instruction(3, 2) = 3; about(5) = 2; depends(0, 4) = 1; about(7) = 255; instruction(4, 4) = 1");
    }

    private static void noActsAfterAgain() {
        edge(23, "No acts are remembered then.");
        fresh().run("start(0, 5); keep(0); start(0, 6); start(0, 7); about(12) = 3; again(0) = 2; about(12) = 0; undo() = LATE")
                .run("address(0, 0) = 105; start(0, 8) = 105; undo() = 0; address(0, 0) = 105; undo() = LATE");
    }

    public static void main(String[] args) {
        newObject();
        lettersOfWrite();
        newLengthOrFull();
        wipeOfAnEmptyText();
        lengthOfWipe();
        noneIfComplete();
        blockWithItsSettings();
        startValuesAsAtFirst();
        whatStays();
        lateIfTheTextHasAFault();
        whatOfAbout();
        stops();
        bestWidth();
        countsOfAbout();
        whatOfInstruction();
        unknownInstruction();
        dependencesOfInstruction();
        valueOfInstruction();
        contentsOfAddress();
        unknownAddress();
        dependsOfUnknown();
        limitsOfStart();
        previousStartValue();
        limitsOfSet();
        previousSetting();
        lateIfNothingToUndo();
        undoneIsForgotten();
        limitsOfTried();
        rowsOfTried();
        triedWithNothingKept();
        noneIfNoStores();
        commandsOfJudge();
        digitsOfJudge();
        leadingZeros();
        settingsOfJudge();
        dependencesOfJudge();
        packsOfJudge();
        costOfJudge();
        everythingElseIsWrong();
        firstWrongCommand();
        judgeChangesNothing();
        anyNumberIsSeen();
        sixObservations();
        unseeOfNone();
        unseeRemovesAll();
        allObservationsAreTrue();
        doesNotStopTheRun();
        lateIfNoStore();
        negativeNumerator();
        sharesAddUp();
        limitsOfChance();
        certainOmission();
        atLeast();
        lateIfSevenStores();
        anySeed();
        previousSeed();
        limitsOfDrawn();
        wrapAroundOfDrawn();
        drawnStartValues();
        onlyTheRandomNumberChanges();
        addressesThatDiffer();
        slotsOfKeep();
        widthOfKeep();
        whatIsKept();
        lateIfNothingIsKept();
        staysKept();
        noActsAfterAgain();
        CHECKS.end();
    }
}
