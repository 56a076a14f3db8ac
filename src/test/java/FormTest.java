import java.io.IOException;
import java.lang.reflect.Constructor;
import java.lang.reflect.Field;
import java.lang.reflect.Method;
import java.lang.reflect.Modifier;
import java.nio.file.Files;
import java.nio.file.Path;
import java.util.ArrayList;
import java.util.List;
import java.util.Set;
import java.util.TreeSet;
import java.util.regex.Matcher;
import java.util.regex.Pattern;

/** The rules of LANGUAGE.md that the source and reflection show. Runs in the project's folder. */
public final class FormTest {
    private static final Path SOURCE = Path.of("src/main/java/SpareRings.java");
    private static final Path DOCUMENT = Path.of("../shared/DOC.md");
    private static final Set<String> LIBRARY = Set.of("Math.max", "Math.min", "Math.abs", "Integer.bitCount", "Long.bitCount",
            "System.arraycopy");

    public static void main(String[] args) throws IOException {
        String code = bare(Files.readString(SOURCE));
        words(code);
        library(code);
        methodLengths(code);
        List<Class<?>> classes = new ArrayList<>();
        collect(SpareRings.class, classes);
        Check.holds("twelve classes at most", classes.size() <= 12);
        for (Class<?> c : classes) {
            classForm(c);
        }
        face(Files.readString(DOCUMENT));
        parts(Files.readString(DOCUMENT), Files.readString(SOURCE));
        Check.end();
    }

    /** The source without what stands in comments and quotes. */
    private static String bare(String source) {
        return Pattern.compile("/\\*.*?\\*/|//[^\\n]*|\"(\\\\.|[^\"\\\\])*\"|'(\\\\.|[^'\\\\])'", Pattern.DOTALL).matcher(source)
                .replaceAll(m -> m.group().replaceAll("[^\\n]", " "));
    }

    private static void words(String code) {
        String[] refused = {"throw", "throws", "try", "catch", "finally", "synchronized", "assert", "import", "package",
            "protected", "native", "volatile", "transient", "record", "var", "yield", "Object", "Exception"};
        for (String word : refused) {
            Check.holds("the word " + word + " isn't there", !Pattern.compile("\\b" + word + "\\b").matcher(code).find());
        }
        for (String sign : new String[] {"->", "::", "@", "[][]", "..."}) {
            Check.holds("the sign " + sign + " isn't there", !code.contains(sign));
        }
    }

    private static void library(String code) {
        Matcher m = Pattern.compile("\\b(Math|Integer|Long|System|Short|Byte|Character|String|Arrays)\\.(\\w+)").matcher(code);
        while (m.find()) {
            Check.holds(m.group() + " may be used", LIBRARY.contains(m.group()));
        }
    }

    /** By the way it is laid out: a method begins at four or eight blanks and ends with a brace there. */
    private static void methodLengths(String code) {
        String[] lines = code.split("\n");
        for (int i = 0; i < lines.length; i++) {
            Matcher m = Pattern.compile("^( {4}| {8})\\S.*\\) \\{$").matcher(lines[i]);
            if (m.find()) {
                int end = i;
                while (!lines[end].equals(m.group(1) + "}")) {
                    end++;
                }
                Check.holds("sixty lines at most: " + lines[i].trim(), end - i < 60);
            }
        }
    }

    private static void collect(Class<?> c, List<Class<?>> into) {
        into.add(c);
        for (Class<?> inside : c.getDeclaredClasses()) {
            collect(inside, into);
        }
    }

    private static void classForm(Class<?> c) {
        int fields = 0;
        for (Field f : c.getDeclaredFields()) {
            if (Modifier.isStatic(f.getModifiers())) {
                Check.holds("a constant: " + f, Modifier.isFinal(f.getModifiers())
                        && (f.getType().isPrimitive() || f.getType() == String.class));
            } else {
                fields++;
            }
        }
        Check.holds("twenty fields at most: " + c, fields <= 20);
        for (Method m : c.getDeclaredMethods()) {
            Check.holds("seven parameters at most: " + m, m.getParameterCount() <= 7);
            Check.holds("of no public one's name: " + m, c == SpareRings.class && Modifier.isPublic(m.getModifiers())
                    || !publicNames().contains(m.getName()));
        }
        if (c != SpareRings.class) {
            Check.holds("static: " + c, Modifier.isStatic(c.getModifiers()) && Modifier.isPrivate(c.getModifiers()));
        }
    }

    private static Set<String> publicNames() {
        Set<String> names = new TreeSet<>();
        for (Method m : SpareRings.class.getDeclaredMethods()) {
            if (Modifier.isPublic(m.getModifiers())) {
                names.add(m.getName());
            }
        }
        return names;
    }

    /** The class's members that aren't private are just those of the document's face. */
    private static void face(String document) {
        Set<String> told = new TreeSet<>();
        Matcher m = Pattern.compile("public (int|long) (\\w+)\\(([^)]*)\\);").matcher(document);
        while (m.find()) {
            told.add(m.group(1) + " " + m.group(2) + "(" + m.group(3).replaceAll(" \\w+(,|$)", "$1") + ")");
        }
        Set<String> here = new TreeSet<>();
        for (Method method : SpareRings.class.getDeclaredMethods()) {
            if (!Modifier.isPrivate(method.getModifiers())) {
                List<String> types = new ArrayList<>();
                for (Class<?> type : method.getParameterTypes()) {
                    types.add(type.getName());
                }
                here.add(method.getReturnType().getName() + " " + method.getName() + "(" + String.join(", ", types) + ")");
                Check.holds("public: " + method, Modifier.isPublic(method.getModifiers()));
            }
        }
        Check.holds("the face is the document's: " + here, here.equals(told) && told.size() == 46);
        for (Field f : SpareRings.class.getDeclaredFields()) {
            Check.holds("private but for NONE: " + f, Modifier.isPrivate(f.getModifiers()) || f.getName().equals("NONE"));
        }
        Constructor<?>[] makers = SpareRings.class.getDeclaredConstructors();
        Check.holds("one public constructor", makers.length == 1 && Modifier.isPublic(makers[0].getModifiers())
                && makers[0].getParameterCount() == 0);
        Check.holds("public and final", Modifier.isPublic(SpareRings.class.getModifiers())
                && Modifier.isFinal(SpareRings.class.getModifiers()));
    }

    /** The calls stand in the document's order, behind what the interface says ahead of them. */
    private static void parts(String document, String source) {
        Matcher part = Pattern.compile("Ahead of the calls (.*) the interface says: (---- .*)\\.").matcher(document);
        int at = 0;
        int calls = 0;
        while (part.find()) {
            at = behind(source, at, "    // " + part.group(2) + "\n");
            Matcher call = Pattern.compile("`(\\w+)`").matcher(part.group(1));
            while (call.find()) {
                at = behind(source, at, "(    public (int|long) )" + call.group(1) + "\\(");
                calls++;
            }
        }
        Check.due("calls of all parts", calls, 46);
    }

    private static int behind(String source, int at, String pattern) {
        Matcher m = Pattern.compile(pattern).matcher(source);
        boolean found = m.find(at);
        Check.holds("in its place: " + pattern.trim(), found);
        return found ? m.end() : at;
    }
}
