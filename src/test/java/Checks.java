/** Counts the answers that are not due, and tells them. */
final class Checks {
    private final String of;
    private int asked = 0;
    private int wrong = 0;

    Checks(String of) {
        this.of = of;
    }

    void due(String what, long got, long want) {
        asked++;
        if (got != want) {
            wrong++;
            if (wrong <= 50) {
                System.out.println(of + ": " + what + " answered " + got + ", due is " + want);
            }
        }
    }

    /** A new object whose block a text describes. */
    static PackLanes blockOf(String text) {
        PackLanes x = new PackLanes();
        rewrite(x, text);
        x.block();
        return x;
    }

    static void rewrite(PackLanes x, String text) {
        x.wipe();
        for (int k = 0; k < text.length(); k++) {
            x.write(text.charAt(k));
        }
    }

    void end() {
        System.out.println(of + ": " + asked + " answers, " + wrong + " not as due");
        if (wrong != 0 || asked == 0) {
            System.exit(1);
        }
    }
}
