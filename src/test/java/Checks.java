/** Counts the answers that are not due, and tells them. */
final class Checks {
    private final String of;
    private String edge = "";
    private int edges = 0;
    private int askedBefore = 0;
    private int asked = 0;
    private int wrong = 0;

    Checks(String of) {
        this.of = of;
    }

    /** The answers from here on stand for a sentence of the document that names a boundary case. */
    void edge(String part, String words) {
        endEdge();
        edges++;
        edge = part + ", \"" + words + "\": ";
        if (!Document.says(part, words)) {
            tellWrong("is not in the document");
        }
        askedBefore = asked;
    }

    private void endEdge() {
        if (edges > 0 && asked == askedBefore) {
            tellWrong("nothing is asked");
        }
    }

    private void tellWrong(String what) {
        wrong++;
        if (wrong <= 50) {
            System.out.println(of + ": " + edge + what);
        }
    }

    void due(String what, long got, long want) {
        asked++;
        if (got != want) {
            tellWrong(what + " answered " + got + ", due is " + want);
        }
    }

    /** A new object whose block a text describes. */
    static PackLanes blockOf(String text) {
        PackLanes x = new PackLanes();
        rewrite(x, text);
        x.block();
        return x;
    }

    static void rewrite(PackLanes x, String text) {
        x.wipe();
        for (int k = 0; k < text.length(); k++) {
            x.write(text.charAt(k));
        }
    }

    void end() {
        endEdge();
        String told = edges == 0 ? "" : edges + " sentences, ";
        System.out.println(of + ": " + told + asked + " answers, " + wrong + " not as due");
        if (wrong != 0 || asked == 0) {
            System.exit(1);
        }
    }
}
