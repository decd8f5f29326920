import java.io.IOException;
import java.lang.reflect.Constructor;
import java.lang.reflect.Field;
import java.lang.reflect.Method;
import java.lang.reflect.Modifier;
import java.nio.file.Files;
import java.nio.file.Path;
import java.util.ArrayList;
import java.util.Collections;
import java.util.HashSet;
import java.util.List;
import java.util.Set;
import java.util.regex.Matcher;
import java.util.regex.Pattern;

/** The document's public face, and those rules of LANGUAGE.md that can be looked up. */
public final class FaceTest {
    private static final Check CHECK = new Check("FaceTest");
    private static final Path SOURCE = Path.of("src/main/java/MangleLine.java");
    private static final String[] FACE = {
        "int feed(int)", "int end(int)", "int text()", "int fault()", "int rule(int)", "int told(int)",
        "int one(int,int)", "int sun(int)", "int alter(int,int,int)", "int set(int,int)", "int shine(int,int)",
        "int bring(int,int)", "int fetch(int)", "int days(int)", "int runs(int,int)", "int ahead(int,int,int)",
        "int home(int)", "int done()", "int blue(int)", "int pegs(int)", "int batch(int)", "int swap(int)",
        "int fair(int)", "int stain(int,int)", "int kind(int,int)", "long luck(int,int,int,int)",
        "long mean(int,int,int)", "int see(int,int,int)", "int forget(int)", "int kinds(int)", "int greys(int)",
        "int ask(int,int)", "int drift(int,int,int)", "int keep(int)", "int back(int)", "int sheet(int,int,int)",
        "int lay(int,int,int)", "int read(int,int,int,int)", "int torn()", "int count(int)",
    };

    public static void main(String[] args) throws IOException {
        face();
        members();
        nestedClasses();
        String code = withoutComments(Files.readString(SOURCE));
        words(code);
        sizes(code);
        CHECK.end();
    }

    private static void face() {
        List<String> want = new ArrayList<>(List.of(FACE));
        List<String> got = new ArrayList<>();
        for (Method m : MangleLine.class.getDeclaredMethods()) {
            if (Modifier.isPublic(m.getModifiers())) {
                got.add(signature(m));
                CHECK.holds("not static: " + m, !Modifier.isStatic(m.getModifiers()));
            }
        }
        Collections.sort(want);
        Collections.sort(got);
        CHECK.holds("public methods are " + got, want.equals(got));
        CHECK.due("constructors", MangleLine.class.getDeclaredConstructors().length, 1);
        CHECK.holds("final", Modifier.isFinal(MangleLine.class.getModifiers()));
        CHECK.due("BAD", MangleLine.BAD, -1);
        CHECK.due("STATE", MangleLine.STATE, -2);
        CHECK.due("FULL", MangleLine.FULL, -3);
        CHECK.due("NONE", MangleLine.NONE, -4);
        CHECK.due("public fields", MangleLine.class.getFields().length, 4);
    }

    private static String signature(Method m) {
        StringBuilder s = new StringBuilder(m.getReturnType().getSimpleName()).append(' ').append(m.getName()).append('(');
        for (int k = 0; k < m.getParameterCount(); k++) {
            s.append(k == 0 ? "" : ",").append(m.getParameterTypes()[k].getSimpleName());
        }
        return s.append(')').toString();
    }

    private static boolean publicOrPrivate(int modifiers) {
        return Modifier.isPublic(modifiers) || Modifier.isPrivate(modifiers);
    }

    private static void members() {
        Set<String> names = new HashSet<>();
        for (Method m : MangleLine.class.getDeclaredMethods()) {
            CHECK.holds("public or private: " + m, publicOrPrivate(m.getModifiers()));
            if (Modifier.isPublic(m.getModifiers())) {
                names.add(m.getName());
            }
        }
        for (Method m : MangleLine.class.getDeclaredMethods()) {
            CHECK.holds("a name of the face: " + m, Modifier.isPublic(m.getModifiers()) || !names.contains(m.getName()));
        }
        for (Field f : MangleLine.class.getDeclaredFields()) {
            CHECK.holds("public or private: " + f, publicOrPrivate(f.getModifiers()));
        }
        for (Constructor<?> c : MangleLine.class.getDeclaredConstructors()) {
            CHECK.holds("public: " + c, Modifier.isPublic(c.getModifiers()));
        }
    }

    private static void nestedClasses() {
        Class<?>[] nested = MangleLine.class.getDeclaredClasses();
        CHECK.holds("some twelve classes", nested.length < 12);
        List<Class<?>> all = new ArrayList<>(List.of(nested));
        all.add(MangleLine.class);
        for (Class<?> c : all) {
            int m = c.getModifiers();
            boolean outer = c == MangleLine.class;
            CHECK.holds(c + " is static", outer || Modifier.isStatic(m) && !Modifier.isPublic(m) && !Modifier.isProtected(m));
            int fields = 0;
            for (Field f : c.getDeclaredFields()) {
                boolean isStatic = Modifier.isStatic(f.getModifiers());
                CHECK.holds("static and not final: " + f, !isStatic || Modifier.isFinal(f.getModifiers()));
                fields += isStatic ? 0 : 1;
            }
            CHECK.holds(c + " has " + fields + " fields", fields <= 20);
            for (Method method : c.getDeclaredMethods()) {
                CHECK.holds("parameters of " + method, method.getParameterCount() <= 7);
                CHECK.holds("a name of the face: " + method, outer || !isOfTheFace(method.getName()));
            }
        }
    }

    private static boolean isOfTheFace(String name) {
        for (String signature : FACE) {
            if (signature.contains(" " + name + "(")) {
                return true;
            }
        }
        return false;
    }

    private static String withoutComments(String source) {
        return source.replaceAll("(?s)/\\*.*?\\*/", "").replaceAll("//[^\n]*", "");
    }

    private static void words(String code) {
        String[] ruledOut = {
            "\\bthrow\\b", "\\bthrows\\b", "\\btry\\b", "\\bcatch\\b", "\\bsynchronized\\b", "\\bassert\\b", "->", "::",
            "\\bpackage\\b", "\\bprotected\\b", "\\binstanceof\\b", "Exact\\b", "\\bSystem\\.(?!arraycopy\\b)",
            "\\bObject\\b", "\\bThread\\b", "\\bRandom\\b", "\\bdouble\\b", "\\bfloat\\b", "\\bvar\\b",
        };
        for (String word : ruledOut) {
            CHECK.holds("no " + word, !Pattern.compile(word).matcher(code).find());
        }
        Matcher imports = Pattern.compile("(?m)^import ([^;]*);").matcher(code);
        while (imports.find()) {
            CHECK.holds("import " + imports.group(1), imports.group(1).equals("java.util.Arrays"));
        }
        Matcher made = Pattern.compile("\\bnew\\b").matcher(code);
        while (made.find()) {
            int from = code.lastIndexOf('\n', made.start()) + 1;
            String line = code.substring(from, code.indexOf('\n', from)).trim();
            boolean inField = line.startsWith("private final ");
            boolean inConstructor = line.matches("(weathers|images|sheets)\\[.\\] = new \\w+\\(\\);");
            CHECK.holds("made by the constructor alone: " + line, inField || inConstructor);
        }
    }

    /** A method ends on the brace that stands as far in as its first line. */
    private static void sizes(String code) {
        String[] lines = code.split("\n");
        Pattern head = Pattern.compile("^( +)(public|private) .*\\) \\{$");
        for (int k = 0; k < lines.length; k++) {
            Matcher m = head.matcher(lines[k]);
            if (m.matches()) {
                int end = k;
                while (end < lines.length && !lines[end].equals(m.group(1) + "}")) {
                    end++;
                }
                CHECK.holds("some sixty lines: " + lines[k].trim(), end - k < 60);
            }
        }
        for (char c : code.toCharArray()) {
            if (c != '\n' && (c < 32 || c > 126)) {
                CHECK.holds("a sign beyond 126", false);
            }
        }
    }
}
