import java.lang.reflect.Constructor;
import java.lang.reflect.Field;
import java.lang.reflect.Method;
import java.lang.reflect.Modifier;
import java.nio.file.Files;
import java.nio.file.Path;
import java.util.ArrayList;
import java.util.Arrays;
import java.util.List;
import java.util.Set;
import java.util.TreeSet;
import java.util.regex.Matcher;
import java.util.regex.Pattern;

/** The public face is the document's, and the file keeps to those rules of LANGUAGE.md that can be read off it. */
final class FaceTest {
    private static final String[] FORBIDDEN = {"throw", "throws", "try", "catch", "synchronized", "assert", "->", "::",
        "import", "protected", "interface", "equals", "hashCode", "toString", "Object", "Integer", "Override", "volatile",
        "native", "goto", "float", "double", "var"};

    public static void main(String[] args) throws Exception {
        Set<String> told = told(Files.readString(Path.of("../shared/DOC.md")));
        face(told);
        classes(told);
        source(Files.readString(Path.of("src/main/java/PaidByTheUnborn.java")));
        Due.end();
    }

    private static Set<String> told(String document) {
        Set<String> told = new TreeSet<>();
        Matcher m = Pattern.compile("(?m)^    public (int|long) (\\w+)\\((.*)\\);$").matcher(document);
        while (m.find()) {
            int many = m.group(3).isEmpty() ? 0 : m.group(3).split(",").length;
            told.add(m.group(1) + " " + m.group(2) + " " + many);
        }
        return told;
    }

    private static void face(Set<String> told) {
        Set<String> found = new TreeSet<>();
        for (Method m : PaidByTheUnborn.class.getDeclaredMethods()) {
            int is = m.getModifiers();
            Due.holds(m + " is public or private", Modifier.isPublic(is) || Modifier.isPrivate(is));
            if (Modifier.isPublic(is)) found.add(m.getReturnType() + " " + m.getName() + " " + m.getParameterCount());
            for (Class<?> p : m.getParameterTypes()) Due.holds(m + " takes ints", p == int.class || !Modifier.isPublic(is));
        }
        Due.holds("the face is the document's: " + found + ", " + told, found.equals(told) && told.size() == 49);
        Constructor<?>[] constructors = PaidByTheUnborn.class.getDeclaredConstructors();
        Due.holds("one public constructor", constructors.length == 1 && Modifier.isPublic(constructors[0].getModifiers()));
        Due.holds("public and final", Modifier.isFinal(PaidByTheUnborn.class.getModifiers()));
    }

    private static void classes(Set<String> told) {
        List<Class<?>> classes = new ArrayList<>(List.of(PaidByTheUnborn.class.getDeclaredClasses()));
        for (Class<?> c : classes) Due.holds(c + " is private and static", (c.getModifiers() & 10) == 10);
        classes.add(PaidByTheUnborn.class);
        Due.holds("at most 12 classes", classes.size() <= 12);
        for (Class<?> c : classes) {
            int fields = 0;
            for (Field f : c.getDeclaredFields()) {
                if (!Modifier.isStatic(f.getModifiers())) fields++;
                else Due.holds(f + " is a constant", Modifier.isFinal(f.getModifiers()));
                Due.holds(f + " is private", Modifier.isPrivate(f.getModifiers()) || c != PaidByTheUnborn.class);
            }
            Due.holds(c + " has at most 20 fields", fields <= 20);
            for (Method m : c.getDeclaredMethods()) {
                Due.holds(m + " takes at most 7", m.getParameterCount() <= 7);
                boolean named = told.stream().anyMatch(t -> t.split(" ")[1].equals(m.getName()));
                Due.holds(m + " bears no public name", !named || Modifier.isPublic(m.getModifiers()));
            }
        }
    }

    private static void source(String text) {
        for (int k = 0; k < text.length(); k++) Due.holds("a sign of 1 to 127 at " + k, text.charAt(k) < 128);
        String code = text.replaceAll("(?s)/\\*.*?\\*/|//[^\n]*", "");
        for (String word : FORBIDDEN) {
            String edge = Character.isLetter(word.charAt(0)) ? "\\b" : "";
            Due.holds("no " + word, !Pattern.compile(edge + Pattern.quote(word) + edge).matcher(code).find());
        }
        Due.holds("no text is joined", !code.contains("\""));
        int open = 0;
        for (String line : code.split("\n")) {
            open = line.matches("    (    )?\\S.*\\) \\{") ? 0 : open + 1;
            if (line.matches("    (    )?\\}")) Due.holds("a method of " + open + " lines", open <= 60);
            Due.holds("a line of at most 120: " + line, line.length() <= 120);
        }
        Due.holds("public classes: one", Arrays.stream(code.split("\n")).filter(l -> l.contains("class ")
                && l.contains("public")).count() == 1);
    }
}
