import java.lang.reflect.Field;
import java.lang.reflect.Method;
import java.lang.reflect.Modifier;
import java.nio.file.Files;
import java.nio.file.Path;
import java.util.ArrayList;
import java.util.List;
import java.util.TreeSet;
import java.util.regex.Matcher;
import java.util.regex.Pattern;

/** The public face of the document, and those rules of LANGUAGE.md that can be seen in the text. */
final class FaceTest {
    private static final String[] FACE = {
        "int hall(int,int,int,int)", "int ofChair(int,int)", "int slip(int,int,int)", "int ofSlip(int,int)",
        "int unsay(int)", "int butter(int,int,int)", "int melt(int)", "int bears(int,int,int)", "int whom(int,int)",
        "int seats(int,int)", "int few(int)", "int tipped(int,int,int,int,int)", "int least(int,int)", "int when(int)",
        "int fresh(int,int)", "int reading(int,int,int,boolean)", "int back(int)", "int times(int)",
        "int grudges(int)", "int ears(int)", "int kinds(int)", "long odds(int,int)", "int sheet(int,int,int)",
        "int lose(int)", "int put(int,int,int)", "long cell(int,int,int)", "int copy(int,int,int,int,int)",
        "int tell(int)", "int creak(int)", "int as(int,int)", "int trace()", "int fault()", "int many(int)"};

    private FaceTest() {
    }

    public static void main(String[] args) throws Exception {
        methods();
        fields();
        classes();
        String source = Files.readString(Path.of("src/main/java/ChairGrudge.java"));
        text(source);
        lengths(source);
        asInTheDocument(source, Edges.document());
        headings(source, Edges.document());
        Due.end("FaceTest");
    }

    private static void methods() {
        TreeSet<String> want = new TreeSet<>(List.of(FACE));
        TreeSet<String> got = new TreeSet<>();
        List<String> names = new ArrayList<>();
        for (Method m : ChairGrudge.class.getDeclaredMethods()) {
            if (Modifier.isPublic(m.getModifiers())) {
                got.add(signature(m));
                names.add(m.getName());
            } else {
                Due.due("private: " + m, Modifier.isPrivate(m.getModifiers()));
            }
        }
        Due.due("face is " + got, got.equals(want));
        for (Class<?> inside : ChairGrudge.class.getDeclaredClasses()) {
            for (Method m : inside.getDeclaredMethods()) {
                Due.due("a name of its own: " + m, !names.contains(m.getName()));
            }
        }
        for (Method m : ChairGrudge.class.getDeclaredMethods()) {
            Due.due("a name of its own: " + m,
                Modifier.isPublic(m.getModifiers()) || !names.contains(m.getName()));
        }
        Due.due("one constructor", ChairGrudge.class.getDeclaredConstructors().length, 1);
        Due.due("it is public", ChairGrudge.class.getConstructors().length, 1);
    }

    /** Each line of the document's face stands in the class, with the parameters' names, in the same order. */
    private static void asInTheDocument(String source, String document) {
        String face = document.substring(document.indexOf("public final class"), document.indexOf("} ```"));
        Matcher call = Pattern.compile("public [\\w ]*\\([^)]*\\);").matcher(face);
        int calls = 0;
        int place = 0;
        while (call.find()) {
            calls++;
            String head = call.group().replace(";", " {");
            int at = source.indexOf(head);
            Due.due("in the document's order: " + head, at > place);
            place = at;
        }
        Due.due("a constructor and the calls", calls, 1 + FACE.length);
        Matcher constants = Pattern.compile("public static final [^;]*;").matcher(face);
        while (constants.find()) {
            Due.due("as in the document: " + constants.group(), source.contains(constants.group()));
        }
    }

    /** Ahead of the calls of each part stands what the document says there. */
    private static void headings(String source, String document) {
        Matcher part = Pattern.compile("Ahead of the calls (.*?) the interface says: (---- .*?)\\.").matcher(document);
        int parts = 0;
        while (part.find()) {
            parts++;
            int begin = source.indexOf("// " + part.group(2) + "\n");
            Due.due("the class says: " + part.group(2), begin >= 0);
            int next = source.indexOf("// ---- ", begin + 1);
            Matcher name = Pattern.compile("`(\\w+)`").matcher(part.group(1));
            while (name.find()) {
                Matcher call = Pattern.compile("public \\w+ " + name.group(1) + "\\(").matcher(source);
                Due.due(name.group(1) + " in its part",
                    call.find() && call.start() > begin && (next < 0 || call.start() < next));
            }
        }
        Due.due("parts", parts, 5);
    }

    private static String signature(Method m) {
        StringBuilder s = new StringBuilder();
        for (Class<?> p : m.getParameterTypes()) {
            s.append(s.length() == 0 ? "" : ",").append(p.getName());
        }
        return m.getReturnType().getName() + " " + m.getName() + "(" + s + ")";
    }

    private static void fields() {
        int open = 0;
        int own = 0;
        for (Field f : ChairGrudge.class.getDeclaredFields()) {
            boolean isStatic = Modifier.isStatic(f.getModifiers());
            Due.due("final: " + f, !isStatic || Modifier.isFinal(f.getModifiers()));
            open += Modifier.isPublic(f.getModifiers()) ? 1 : 0;
            own += isStatic ? 0 : 1;
            Due.due("private: " + f, Modifier.isPrivate(f.getModifiers()) || Modifier.isPublic(f.getModifiers()));
        }
        Due.due("constants of the face", open, 6);
        Due.due("at most twenty fields", own <= 20);
    }

    private static void classes() {
        Due.due("public and final", ChairGrudge.class.getModifiers(), Modifier.PUBLIC | Modifier.FINAL);
        Class<?>[] inside = ChairGrudge.class.getDeclaredClasses();
        Due.due("at most twelve classes", inside.length < 12);
        for (Class<?> c : inside) {
            int modifiers = c.getModifiers();
            Due.due("static: " + c, Modifier.isStatic(modifiers));
            Due.due("not open: " + c, !Modifier.isPublic(modifiers) && !Modifier.isProtected(modifiers));
            int own = 0;
            for (Field f : c.getDeclaredFields()) {
                boolean isStatic = Modifier.isStatic(f.getModifiers());
                own += isStatic ? 0 : 1;
                Due.due("final: " + f, !isStatic || Modifier.isFinal(f.getModifiers()));
            }
            Due.due("at most twenty fields: " + c, own <= 20);
            for (Method m : c.getDeclaredMethods()) {
                Due.due("at most seven parameters: " + m, m.getParameterCount() <= 7);
            }
        }
    }

    /** A method ends at the first closing brace that is set in as far as its head. */
    private static void lengths(String code) {
        String head = "^( {4}| {8})(?=\\S)[\\w\\[\\] ]+\\([^;{}]*\\) \\{$";
        Matcher method = Pattern.compile("(?ms)" + head + ".*?^\\1\\}$").matcher(code);
        int found = 0;
        while (method.find()) {
            found++;
            Due.due("at most sixty lines: " + method.group().lines().findFirst(), method.group().lines().count() <= 60);
        }
        Due.due("methods and constructors were found", found > 80);
    }

    private static void text(String source) {
        String code = source.replaceAll("(?s)/\\*.*?\\*/", "").replaceAll("//[^\n]*", "");
        String[] barred = {"\\bthrow\\b", "\\bthrows\\b", "\\btry\\b", "\\bcatch\\b", "\\bsynchronized\\b",
            "\\bassert\\b", "\\bimport\\b", "\\bpackage\\b", "->", "::", "\\bwhile\\s*\\(true\\)", "for\\s*\\(;",
            "\\b(?:add|subtract|multiply|increment|decrement|negate|toInt)Exact\\b", "\\bequals\\b", "\\bhashCode\\b",
            "\\btoString\\b", "\\[\\]\\s*\\[\\]\\s*\\["};
        for (String pattern : barred) {
            Due.due("without " + pattern, !Pattern.compile(pattern).matcher(code).find());
        }
        for (int i = 0; i < source.length(); i++) {
            Due.due("a plain sign", source.charAt(i) == '\n' || source.charAt(i) >= 32 && source.charAt(i) < 127);
        }
        Matcher library = Pattern.compile("\\b(System|Math|Integer|Long|Arrays)\\.(\\w+)").matcher(code);
        List<String> listed = List.of("System.arraycopy", "Math.min", "Math.abs", "Integer.bitCount",
            "Long.MIN_VALUE");
        while (library.find()) {
            Due.due("of the library: " + library.group(), listed.contains(library.group()));
        }
    }
}
