import java.io.IOException;
import java.lang.reflect.Field;
import java.lang.reflect.Method;
import java.lang.reflect.Modifier;
import java.nio.file.Files;
import java.nio.file.Path;
import java.util.ArrayList;
import java.util.List;
import java.util.Set;
import java.util.TreeSet;
import java.util.regex.Matcher;
import java.util.regex.Pattern;

/** Those rules of LANGUAGE.md that can be seen from the source and from the compiled classes. */
final class LanguageTest {
    private static final Checks CHECKS = new Checks("language");

    private static final Set<String> FACE = Set.of(
        "public int write(int)", "public int wipe()", "public int fault()", "public int block()",
        "public int about(int)", "public int instruction(int,int)", "public int address(int,int)",
        "public int depends(int,int)", "public int start(int,int)", "public int set(int,int)",
        "public int undo()", "public int tried(int,int)", "public int judge(int,long)",
        "public int see(int,int)", "public int unsee()", "public int which()",
        "public int share(int,boolean)", "public int chance(int,int,boolean)", "public long seed(long)",
        "public int drawn(int)", "public int keep(int)", "public int again(int)");

    private static final String[] NOT_IN_SOURCE = {
        "\\b(throw|throws|try|catch|finally|synchronized|assert|import|package|instanceof|record|enum|yield)\\b",
        "->", "::", "\"", "\\bexact\\b", "Exact\\(", "\\b(equals|hashCode|toString|Object|System\\.(?!arraycopy))",
        "\\b(double|float|Random|Thread|nanoTime|currentTimeMillis)\\b", "(?m)^.{121,}$", "\t",
    };

    private static String source() throws IOException {
        String all = Files.readString(Path.of("src/main/java/PackLanes.java"));
        return all.replaceAll("(?s)/\\*.*?\\*/", "").replaceAll("//[^\n]*", "");
    }

    private static int count(String pattern, String in) {
        Matcher m = Pattern.compile(pattern).matcher(in);
        int n = 0;
        while (m.find()) {
            n++;
        }
        return n;
    }

    private static List<Class<?>> classes() {
        List<Class<?>> all = new ArrayList<>();
        all.add(PackLanes.class);
        for (int k = 0; k < all.size(); k++) {
            all.addAll(List.of(all.get(k).getDeclaredClasses()));
        }
        return all;
    }

    private static String told(Method m) {
        StringBuilder s = new StringBuilder();
        s.append(Modifier.toString(m.getModifiers())).append(' ').append(m.getReturnType()).append(' ');
        s.append(m.getName()).append('(');
        for (int k = 0; k < m.getParameterCount(); k++) {
            s.append(k == 0 ? "" : ",").append(m.getParameterTypes()[k]);
        }
        return s.append(')').toString();
    }

    private static void face() {
        Set<String> names = new TreeSet<>();
        int found = 0;
        for (Method m : PackLanes.class.getDeclaredMethods()) {
            if (!Modifier.isPrivate(m.getModifiers())) {
                CHECKS.due(told(m) + " in the face", FACE.contains(told(m)) ? 1 : 0, 1);
                names.add(m.getName());
                found++;
            }
        }
        CHECKS.due("methods of the face", found, FACE.size());
        for (Class<?> c : classes()) {
            for (Method m : c.getDeclaredMethods()) {
                boolean own = c == PackLanes.class && !Modifier.isPrivate(m.getModifiers());
                CHECKS.due(told(m) + " bears the name of a public one", !own && names.contains(m.getName()) ? 1 : 0, 0);
                CHECKS.due("many parameters of " + told(m), m.getParameterCount() > 7 ? 1 : 0, 0);
            }
        }
        int modifiers = PackLanes.class.getModifiers();
        CHECKS.due("public final", Modifier.isPublic(modifiers) && Modifier.isFinal(modifiers) ? 1 : 0, 1);
        CHECKS.due("constructors", PackLanes.class.getDeclaredConstructors().length, 1);
        CHECKS.due("public constructors", PackLanes.class.getConstructors().length, 1);
    }

    private static void fields() {
        int constants = 0;
        for (Class<?> c : classes()) {
            int own = 0;
            for (Field f : c.getDeclaredFields()) {
                boolean fixed = Modifier.isStatic(f.getModifiers());
                own += fixed ? 0 : 1;
                CHECKS.due(f + " is static and can change", fixed && !Modifier.isFinal(f.getModifiers()) ? 1 : 0, 0);
                if (c == PackLanes.class && !Modifier.isPrivate(f.getModifiers())) {
                    constants++;
                    CHECKS.due(f + " is a constant", Modifier.isPublic(f.getModifiers()) && fixed ? 1 : 0, 1);
                }
            }
            CHECKS.due("many fields in " + c, own > 20 ? own : 0, 0);
            boolean inside = c != PackLanes.class;
            CHECKS.due(c + " is an inner class", inside && !Modifier.isStatic(c.getModifiers()) ? 1 : 0, 0);
            CHECKS.due(c + " is open", inside && (c.getModifiers() & (Modifier.PUBLIC | Modifier.PROTECTED)) != 0
                    ? 1 : 0, 0);
        }
        CHECKS.due("constants", constants, 5);
        CHECKS.due("many classes", classes().size() > 12 ? 1 : 0, 0);
    }

    private static void source(String source) {
        for (String pattern : NOT_IN_SOURCE) {
            CHECKS.due("uses of " + pattern, count(pattern, source), 0);
        }
        // Rows are made with the object and used again, so no call of a method makes anything.
        int fieldsAndConstructors = count("(?m)^ +(private |final |)[^(\n]*= new [^\n]*;$", source);
        CHECKS.due("objects made elsewhere", count("\\bnew\\b", source) - fieldsAndConstructors, 0);
        CHECKS.due("while loops without a counter", count("\\bwhile\\b|for \\(;", source), 0);
        int longest = 0;
        int length = 0;
        for (String line : source.split("\n")) {
            length = line.matches(" {4}( {4})?[^ }].*\\{") ? 0 : length + 1;
            longest = line.matches(" {4}( {4})?\\}") ? Math.max(longest, length) : longest;
        }
        CHECKS.due("long methods", longest > 60 ? longest : 0, 0);
    }

    public static void main(String[] args) throws IOException {
        face();
        fields();
        source(source());
        CHECKS.end();
    }
}
