/** The four examples of the document, call by call. */
final class ExamplesTest {
    private static final Checks CHECKS = new Checks("examples");

    private static void due(String what, long got, long want) {
        CHECKS.due(what, got, want);
    }

    private static void write(PackLanes x, int... letters) {
        for (int k = 0; k < letters.length; k++) {
            due("write(" + letters[k] + ")", x.write(letters[k]), k + 1);
        }
    }

    private static void constantIsStored() {
        PackLanes x = new PackLanes();
        write(x, 86, 56, 49, 50, 107, 49, 115, 65, 48, 97);
        due("block()", x.block(), 2);
        due("instruction(1, 0)", x.instruction(1, 0), 6);
        due("address(0, 1)", x.address(0, 1), 1);
        due("about(4)", x.about(4), 1);
        due("depends(0, 1)", x.depends(0, 1), 1);
        due("which()", x.which(), 3);
    }

    private static void loadAndStartValue() {
        PackLanes x = new PackLanes();
        write(x, 86, 56, 49, 52, 108, 65, 48);
        due("fault()", x.fault(), -9);
        due("block()", x.block(), 1);
        due("about(3)", x.about(3), 4);
        due("instruction(0, 5)", x.instruction(0, 5), 1);
        due("start(0, -7)", x.start(0, -7), 101);
        due("instruction(0, 5)", x.instruction(0, 5), -7);
        due("set(2, 3)", x.set(2, 3), -2);
        due("undo()", x.undo(), 0);
        due("see(0, 1)", x.see(0, 1), 1);
    }

    private static void wrongCharacterAndCommands() {
        PackLanes x = new PackLanes();
        write(x, 86, 56, 48, 50, 50, 115);
        due("fault()", x.fault(), 4);
        due("block()", x.block(), -3);
        due("tried(0, 6)", x.tried(0, 6), -9);
        due("tried(0, 7)", x.tried(0, 7), -2);
        due("judge(1, 10004)", x.judge(1, 10004L), -9);
        due("judge(2, 1000460000)", x.judge(2, 1000460000L), -9);
        due("judge(1, 60001)", x.judge(1, 60001L), 0);
        due("about(5)", x.about(5), 0);
        due("write(256)", x.write(256), -2);
        due("wipe()", x.wipe(), 6);
    }

    private static void emptyBlockSlotAndChances() {
        PackLanes x = new PackLanes();
        due("fault()", x.fault(), 0);
        due("block()", x.block(), -3);
        due("keep(0)", x.keep(0), 2);
        due("again(1)", x.again(1), -3);
        due("start(15, 99)", x.start(15, 99), 116);
        due("address(15, 0)", x.address(15, 0), 199);
        due("again(0)", x.again(0), 2);
        due("undo()", x.undo(), -3);
        due("seed(4)", x.seed(4L), 0);
        due("drawn(2)", x.drawn(2), 0);
        due("chance(0, 5, true)", x.chance(0, 5, true), 1);
        due("chance(1, 5, true)", x.chance(1, 5, true), 0);
        due("chance(1, 5, false)", x.chance(1, 5, false), 1);
        due("share(0, true)", x.share(0, true), -1);
        due("about(9)", x.about(9), -9);
        due("about(11)", x.about(11), 2);
    }

    public static void main(String[] args) {
        constantIsStored();
        loadAndStartValue();
        wrongCharacterAndCommands();
        emptyBlockSlotAndChances();
        CHECKS.end();
    }
}
