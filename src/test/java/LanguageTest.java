import java.io.IOException;
import java.lang.reflect.Constructor;
import java.lang.reflect.Field;
import java.lang.reflect.Member;
import java.lang.reflect.Method;
import java.lang.reflect.Modifier;
import java.nio.file.Files;
import java.nio.file.Path;
import java.util.ArrayList;
import java.util.HashSet;
import java.util.List;
import java.util.Set;
import java.util.TreeSet;
import java.util.regex.Matcher;
import java.util.regex.Pattern;

/** What can be looked at of ../shared/LANGUAGE.md from outside, by the rule's number, and the document's face. */
public final class LanguageTest {
    private static int wrong = 0;

    private static void rule(int rule, boolean kept, String what) {
        if (!kept) {
            wrong++;
            System.out.println("rule " + rule + ": " + what);
        }
    }

    private static Set<String> faceOfDocument() throws IOException {
        Set<String> face = new TreeSet<>();
        Matcher m = Pattern.compile("(?m)^    public (int|boolean) (\\w+)\\(([^)]*)\\);").matcher(Files.readString(Path.of("../shared/DOC.md")));
        while (m.find()) {
            face.add(m.group(1) + " " + m.group(2) + "(" + m.group(3).replaceAll("(int|boolean) \\w+", "$1") + ")");
        }
        return face;
    }

    private static Set<String> faceOfClass() {
        Set<String> face = new TreeSet<>();
        for (Method m : FarEditors.class.getDeclaredMethods()) {
            if (!Modifier.isPrivate(m.getModifiers())) {
                List<String> types = new ArrayList<>();
                for (Class<?> c : m.getParameterTypes()) {
                    types.add(c.getName());
                }
                face.add(m.getReturnType() + " " + m.getName() + "(" + String.join(", ", types) + ")");
                rule(1, Modifier.isPublic(m.getModifiers()), m.getName() + " is neither public nor private");
            }
        }
        return face;
    }

    private static void lookAtFace() throws IOException {
        rule(1, faceOfClass().equals(faceOfDocument()), "the face is " + faceOfClass() + ", the document's is " + faceOfDocument());
        rule(1, faceOfDocument().size() == 38, "methods read from the document: " + faceOfDocument().size());
        Constructor<?>[] constructors = FarEditors.class.getDeclaredConstructors();
        rule(1, constructors.length == 1 && Modifier.isPublic(constructors[0].getModifiers()), "constructors");
        for (Field f : FarEditors.class.getDeclaredFields()) {
            rule(1, Modifier.isPrivate(f.getModifiers()) || f.getName().equals("NONE"), "field " + f.getName());
        }
        rule(1, Modifier.isFinal(FarEditors.class.getModifiers()), "the class is not final");
    }

    private static void lookAtClasses() {
        Set<String> publicNames = new HashSet<>();
        for (Method m : FarEditors.class.getDeclaredMethods()) {
            if (Modifier.isPublic(m.getModifiers())) {
                publicNames.add(m.getName());
            }
        }
        List<Class<?>> all = new ArrayList<>(List.of(FarEditors.class.getDeclaredClasses()));
        for (Class<?> c : all) {
            int how = c.getModifiers();
            rule(1, Modifier.isStatic(how) && !Modifier.isPublic(how) && !Modifier.isProtected(how), c.getName());
        }
        all.add(FarEditors.class);
        rule(11, all.size() <= 12, all.size() + " classes");
        for (Class<?> c : all) {
            int fields = 0;
            for (Field f : c.getDeclaredFields()) {
                boolean isStatic = Modifier.isStatic(f.getModifiers());
                fields += isStatic ? 0 : 1;
                rule(5, !isStatic || Modifier.isFinal(f.getModifiers()), "static field " + f.getName());
            }
            rule(11, fields <= 20, c.getName() + " has " + fields + " fields");
            for (Method m : c.getDeclaredMethods()) {
                rule(11, m.getParameterCount() <= 7, m.getName() + " takes too many");
                Member asMember = m;
                boolean isOfFace = c == FarEditors.class && Modifier.isPublic(asMember.getModifiers());
                rule(1, isOfFace || !publicNames.contains(m.getName()), c.getName() + "." + m.getName() + " bears a public name");
            }
        }
    }

    private static void lookAtWords(String source) {
        String code = source.replaceAll("(?s)/\\*.*?\\*/", "").replaceAll("//[^\n]*", "").replaceAll("\"[^\"]*\"", "TEXT");
        String[] ruledOut = {"throw", "throws", "try", "catch", "finally", "synchronized", "assert", "var", "volatile",
            "native", "transient", "Object", "equals", "hashCode", "toString", "float", "double", "goto"};
        for (String word : ruledOut) {
            rule(6, !Pattern.compile("\\b" + word + "\\b").matcher(code).find(), "the word " + word);
        }
        rule(2, !code.contains("->") && !code.contains("::"), "a lambda or a method reference");
        rule(3, !code.contains("TEXT +") && !code.contains("+ TEXT"), "texts joined by +");
        Matcher m = Pattern.compile("\\b(Arrays|System|Math|Integer|Long)\\.(\\w+)").matcher(code.replaceAll("import [^;]*;", ""));
        Set<String> allowed = Set.of("Arrays.fill", "Arrays.copyOf", "Arrays.copyOfRange", "System.arraycopy", "Math.min", "Math.max", "Math.abs");
        while (m.find()) {
            rule(4, allowed.contains(m.group()), m.group());
        }
        m = Pattern.compile("import ([^;]*);").matcher(code);
        while (m.find()) {
            rule(4, Set.of("java.util.Arrays", "java.util.ArrayList", "java.util.List").contains(m.group(1)), m.group());
        }
        m = Pattern.compile("new ([A-Z]\\w*)").matcher(code);
        Set<String> own = new HashSet<>();
        for (Class<?> c : FarEditors.class.getDeclaredClasses()) {
            own.add(c.getSimpleName());
        }
        while (m.find()) {
            rule(4, own.contains(m.group(1)), m.group());
        }
        for (char c : source.toCharArray()) {
            rule(4, c >= 10 && c < 127, "the sign " + (int) c);
        }
    }

    private static void lookAtLengths(String source) {
        String[] lines = source.split("\n");
        Pattern head = Pattern.compile("^(    |        )(public |private |static |final )*[\\w\\[\\]]+ ?\\w*\\(.*\\{$");
        for (int i = 0; i < lines.length; i++) {
            rule(11, lines[i].length() <= 130, "line " + (i + 1) + " is long");
            Matcher m = head.matcher(lines[i]);
            if (m.find()) {
                int end = i + 1;
                while (end < lines.length && !lines[end].equals(m.group(1) + "}")) {
                    end++;
                }
                rule(11, end - i < 60, "the method at line " + (i + 1) + " has " + (end - i) + " lines");
            }
        }
    }

    public static void main(String[] args) throws IOException {
        String source = Files.readString(Path.of("src/main/java/FarEditors.java"));
        lookAtFace();
        lookAtClasses();
        lookAtWords(source);
        lookAtLengths(source);
        System.out.println(wrong + " rules broken");
        if (wrong != 0) {
            System.exit(1);
        }
    }
}
