/** Long runs of calls, made from numbers that are the same each time, against the model. */
final class ModelTest {
    private static final Checks CHECKS = new Checks("model");
    private static final int QUESTIONS = 28;
    private static final String[] FIXED = {
        // two statements of the same shape, with a quotient between them
        "V812lA0lA1k2/ab*ac*bcsB0dsB1esB2f",
        // rows that overlap
        "V412lA0lA1+ab+basB0csB1dlA4lA5sA6gsA7h",
        "V012lA0lA1sB0asB1blA2lA3sB2esB3f",
        "V814lA0lA1lA2lA3*aa*bb*cc*ddsB4esB5fsB6gsB7h",
        "V802lA0lB0lA1lB1*ab*cd+ee+ffsA0gsA1h",
        // two packs that wait for each other
        "V812lA0lA1sB0asB2blB3lB1sA4esA5f",
    };

    private static long state = 1;
    private static int run;
    private static int calls;
    private static PackLanes real;
    private static Model model;

    private static int below(int n) {
        state = state * 6364136223846793005L + 1442695040888963407L;
        return (int) ((state >>> 33) % n);
    }

    private static boolean flip() {
        return below(2) == 0;
    }

    private static void due(String call, long got, long want) {
        calls++;
        if (calls > 512) {
            throw new IllegalStateException("the document promises nothing about so many calls of one object");
        }
        CHECKS.due("run " + run + ": " + call, got, want);
    }

    // ---- texts

    private static String header() {
        return "V" + (below(3) == 0 ? below(9) : 8) + (below(4) == 0 ? 0 : 1) + (below(3) == 0 ? 4 : 2);
    }

    /** Values and stores at random. */
    private static String wildText() {
        StringBuilder s = new StringBuilder(header());
        StringBuilder values = new StringBuilder();
        int n = below(17);
        int kinds = 3 + below(7);
        for (int i = 0; i < n; i++) {
            char own = (char) ('a' + i);
            int kind = values.isEmpty() ? below(2) : below(kinds);
            if (kind == 1 && flip()) {
                kind = 0;
            }
            if (kind == 0) {
                s.append('l').append(flip() ? 'A' : 'B').append(below(4));
                values.append(own);
            } else if (kind == 1) {
                s.append('k').append(below(10));
                values.append(own);
            } else if (kind == 2 || kind > 6) {
                s.append('s').append(flip() ? 'A' : 'B').append(below(5)).append(oneOf(values));
            } else {
                s.append("+-*/".charAt(kind - 3)).append(oneOf(values)).append(oneOf(values));
                values.append(own);
            }
        }
        return s.toString();
    }

    private static char oneOf(CharSequence values) {
        return values.charAt(values.length() - 1 - below(Math.min(values.length(), 6)));
    }

    /** Lanes that do the same, with a few things changed. */
    private static String laneText() {
        int width = below(3) == 0 ? 4 : 2;
        StringBuilder s = new StringBuilder(header());
        int count = 0;
        int statements = width == 4 ? 1 + below(2) : 1 + below(3);
        for (int k = 0; k < statements && count + 4 * width <= 16 + below(2) * 3; k++) {
            count = appendStatement(s, width, count);
        }
        if (below(3) == 0 && count > 0 && count < 16) {
            s.append('s').append(flip() ? 'A' : 'B').append(below(8)).append('a');
        }
        return s.toString();
    }

    private static int appendStatement(StringBuilder s, int width, int from) {
        int count = from;
        char[] first = new char[width];
        char[] second = new char[width];
        char[] result = new char[width];
        int start = below(9 - width);
        char row = flip() ? 'A' : 'B';
        for (int k = 0; k < width; k++) {
            s.append('l').append(row).append(start + k);
            first[k] = (char) ('a' + count++);
        }
        int sort = below(4);
        for (int k = 0; k < width; k++) {
            second[k] = sort == 0 ? first[k] : sort == 1 ? first[0] : (char) ('a' + count);
            if (sort == 2) {
                s.append('k').append(below(4));
                count++;
            } else if (sort == 3) {
                s.append('l').append(row == 'A' ? 'B' : 'A').append(start + k);
                count++;
            }
        }
        char sign = "+-*+*/".charAt(below(6));
        for (int k = 0; k < width; k++) {
            boolean turn = below(3) == 0;
            s.append(below(12) == 0 ? '-' : sign).append(turn ? second[k] : first[k]).append(turn ? first[k] : second[k]);
            result[k] = (char) ('a' + count++);
        }
        char to = flip() ? 'A' : 'B';
        int cell = below(9 - width);
        for (int k = 0; k < width; k++) {
            s.append('s').append(to).append(cell + k).append(below(10) == 0 ? first[k] : result[k]);
            count++;
        }
        return count;
    }

    private static String anyText() {
        return flip() ? wildText() : laneText();
    }

    /** A text in which a character may be wrong, missing or too much. */
    private static String hurt(String text) {
        StringBuilder s = new StringBuilder(text);
        int at = below(s.length());
        switch (below(4)) {
            case 0 -> s.setCharAt(at, (char) below(256));
            case 1 -> s.setLength(at);
            case 2 -> s.deleteCharAt(at);
            default -> s.append("lk+-*/sAVa0".charAt(below(11)));
        }
        return s.toString();
    }

    private static void writeText(String text) {
        due("wipe()", real.wipe(), model.wipe());
        for (int k = 0; k < text.length(); k++) {
            int c = text.charAt(k);
            due("write(" + c + ")", real.write(c), model.write(c));
        }
        due("fault() of " + text, real.fault(), model.fault());
        due("block() of " + text, real.block(), model.block());
    }

    // ---- calls

    private static int near(int from, int to) {
        if (below(20) != 0) {
            return from + below(to - from + 1);
        }
        return switch (below(6)) {
            case 0 -> Integer.MIN_VALUE;
            case 1 -> Integer.MAX_VALUE;
            case 2, 3 -> from - 1 - below(2);
            default -> to + 1 + below(2);
        };
    }

    private static int place() {
        int n = model.about(0);
        return near(0, Math.max(0, n - 1));
    }

    /** Some of all the questions, as an object is made for so few calls that it can't be asked all of them. */
    private static void ask() {
        for (int k = 0; k < QUESTIONS; k++) {
            oneQuestion();
        }
    }

    private static void oneQuestion() {
        int a = place();
        int b = place();
        int address = near(0, 15);
        switch (below(12)) {
            case 0, 1, 2, 3 -> {
                a = near(0, 14);
                due("about(" + a + ")", real.about(a), model.about(a));
            }
            case 4, 5, 6, 7 -> {
                b = near(0, 5);
                due("instruction(" + a + ", " + b + ")", real.instruction(a, b), model.instruction(a, b));
            }
            case 8 -> due("depends(" + a + ", " + b + ")", real.depends(a, b), model.depends(a, b));
            case 9 -> {
                b = near(0, 2);
                due("address(" + address + ", " + b + ")", real.address(address, b), model.address(address, b));
            }
            case 10 -> {
                a = near(0, 1);
                b = near(0, 6);
                due("tried(" + a + ", " + b + ")", real.tried(a, b), model.tried(a, b));
            }
            default -> due("which()", real.which(), model.which());
        }
    }

    private static int twoDigits(int v) {
        return Math.max(0, Math.min(99, v));
    }

    private static long commands(int n) {
        long row = 0;
        int count = Math.max(1, model.about(0));
        for (int k = 0; k < n; k++) {
            int d = below(10) == 0 ? below(10) : 1 + below(6);
            int i = 0;
            int j;
            switch (d) {
                case 1 -> j = near(0, 2) * 2;
                case 2 -> j = near(0, 1);
                case 3 -> j = near(0, 8);
                case 4 -> {
                    i = below(count);
                    j = i + below(count + 1 - i);
                }
                case 5 -> {
                    i = near(0, count);
                    j = near(0, 1);
                }
                default -> j = flip() ? model.about(5) : below(17);
            }
            if (below(15) == 0) {
                i = below(20);
            }
            row = row * 100000 + d * 10000 + twoDigits(i) * 100 + twoDigits(j);
        }
        return below(25) == 0 ? (flip() ? -row : row * 10 + 1) : row;
    }

    private static void oneCall() {
        int a;
        int b;
        switch (below(18)) {
            case 0, 1, 2 -> {
                a = near(0, 15);
                b = flip() ? near(-4, 4) : near(-99, 99);
                due("start(" + a + ", " + b + ")", real.start(a, b), model.start(a, b));
            }
            case 3, 4 -> {
                a = near(0, 2);
                b = a == 0 ? near(0, 8) : a == 1 ? near(0, 1) : near(1, 2) * 2;
                due("set(" + a + ", " + b + ")", real.set(a, b), model.set(a, b));
            }
            case 5, 6 -> due("undo()", real.undo(), model.undo());
            case 7 -> {
                a = near(0, 1);
                due("keep(" + a + ")", real.keep(a), model.keep(a));
            }
            case 8 -> {
                a = near(0, 1);
                due("again(" + a + ")", real.again(a), model.again(a));
            }
            case 9 -> {
                a = near(0, 15);
                b = flip() ? model.address(a, 1) : near(-4, 20);
                due("see(" + a + ", " + b + ")", real.see(a, b), model.see(a, b));
            }
            case 10 -> {
                if (below(4) == 0) {
                    due("unsee()", real.unsee(), model.unsee());
                }
                due("which()", real.which(), model.which());
            }
            case 11 -> {
                a = near(1, 10);
                due("drawn(" + a + ")", real.drawn(a), model.drawn(a));
            }
            case 12 -> {
                long v = below(3) == 0 ? below(1000) : state;
                due("seed(" + v + ")", real.seed(v), model.seed(v));
            }
            case 13, 14 -> {
                a = near(1, 3);
                long row = commands(Math.min(3, Math.max(1, a)));
                due("judge(" + a + ", " + row + ")", real.judge(a, row), model.judge(a, row));
            }
            default -> oneQuestion();
        }
    }

    private static void sharesAndChances() {
        int n = model.about(0);
        for (int i = -1; i <= n; i++) {
            boolean upper = flip();
            due("share(" + i + ", " + upper + ")", real.share(i, upper), model.share(i, upper));
        }
        for (int k = 0; k < 3; k++) {
            int v = k == 2 ? near(0, 99) : near(0, 6);
            int tenths = near(0, 10);
            due("chance(" + v + ", " + tenths + ", true)", real.chance(v, tenths, true), model.chance(v, tenths, true));
            due("chance(" + v + ", " + tenths + ", false)", real.chance(v, tenths, false),
                    model.chance(v, tenths, false));
        }
    }

    /** More acts than are remembered, and as many undone as can be. */
    private static void manyActs() {
        for (int k = 0; k < 20; k++) {
            int a = below(19);
            if (a < 16) {
                int v = near(-99, 99);
                due("start(" + a + ", " + v + ")", real.start(a, v), model.start(a, v));
            } else {
                int v = a == 16 ? below(9) : a == 17 ? below(2) : 2 + 2 * below(2);
                due("set(" + (a - 16) + ", " + v + ")", real.set(a - 16, v), model.set(a - 16, v));
            }
        }
        for (int k = 0; k < 15; k++) {
            due("undo()", real.undo(), model.undo());
            due("about(5)", real.about(5), model.about(5));
        }
        ask();
    }

    private static void oneRun(String text) {
        real = new PackLanes();
        model = new Model();
        calls = 0;
        if (below(10) != 0) {
            writeText(text);
        }
        ask();
        for (int k = 0; k < 30; k++) {
            oneCall();
        }
        ask();
        if (run % 4 == 0) {
            sharesAndChances();
        }
        if (run % 8 == 0) {
            manyActs();
        }
        writeText(hurt(text));
        for (int k = 0; k < 5; k++) {
            oneCall();
        }
        ask();
        writeText(anyText());
        ask();
    }

    public static void main(String[] args) {
        for (String text : FIXED) {
            run++;
            oneRun(text);
        }
        int runs = args.length == 1 ? Integer.parseInt(args[0]) : 4000;
        while (run < runs) {
            run++;
            oneRun(anyText());
        }
        CHECKS.end();
    }
}
