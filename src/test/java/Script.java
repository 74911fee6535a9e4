import java.lang.reflect.Method;

/**
 * Calls on one object, told as the document tells its examples: "write(86) = 1; fault() = 1". Behind the
 * equals sign stands a number or the name of a constant; without it the answer is not looked at.
 */
final class Script {
    // The document promises nothing about an object after so many calls.
    private static final int CALLS = 512;

    private final Checks checks;
    private final PackLanes object = new PackLanes();
    private int calls = 0;

    Script(Checks checks) {
        this.checks = checks;
    }

    /** Writes a text in place of the one that is there. */
    Script text(String text) {
        run("wipe()");
        for (int k = 0; k < text.length(); k++) {
            run("write(" + (int) text.charAt(k) + ")");
        }
        return this;
    }

    Script block(String text) {
        text(text);
        return run("block()");
    }

    Script run(String told) {
        for (String one : told.split(";")) {
            String[] sides = one.trim().split(" = ");
            long got = answer(sides[0]);
            if (sides.length == 2) {
                checks.due(sides[0], got, number(sides[1]));
            }
        }
        return this;
    }

    int calls() {
        return calls;
    }

    long answer(String call) {
        calls++;
        if (calls > CALLS) {
            throw new IllegalStateException("more than " + CALLS + " calls on one object");
        }
        int open = call.indexOf('(');
        String inside = call.substring(open + 1, call.length() - 1);
        String[] told = inside.isEmpty() ? new String[0] : inside.split(", ");
        for (Method m : PackLanes.class.getMethods()) {
            if (m.getName().equals(call.substring(0, open)) && m.getParameterCount() == told.length) {
                return answer(m, told);
            }
        }
        throw new IllegalArgumentException("there is no method for " + call);
    }

    private long answer(Method m, String[] told) {
        Object[] arguments = new Object[told.length];
        for (int k = 0; k < told.length; k++) {
            Class<?> type = m.getParameterTypes()[k];
            if (type == boolean.class) {
                arguments[k] = told[k].equals("true");
            } else if (type == long.class) {
                arguments[k] = number(told[k]);
            } else {
                arguments[k] = Math.toIntExact(number(told[k]));
            }
        }
        try {
            return ((Number) m.invoke(object, arguments)).longValue();
        } catch (ReflectiveOperationException e) {
            throw new IllegalStateException(m.getName() + " threw", e);
        }
    }

    private static long number(String told) {
        return switch (told) {
            case "UNKNOWN" -> -1;
            case "BAD" -> -2;
            case "LATE" -> -3;
            case "FULL" -> -4;
            case "NONE" -> -9;
            case "MIN" -> Integer.MIN_VALUE;
            case "MAX" -> Integer.MAX_VALUE;
            case "LONGMIN" -> Long.MIN_VALUE;
            case "LONGMAX" -> Long.MAX_VALUE;
            default -> Long.parseLong(told.endsWith("L") ? told.substring(0, told.length() - 1) : told);
        };
    }
}
