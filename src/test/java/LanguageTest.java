import java.lang.reflect.Constructor;
import java.lang.reflect.Field;
import java.lang.reflect.Method;
import java.lang.reflect.Modifier;
import java.nio.file.Files;
import java.nio.file.Path;
import java.util.Arrays;
import java.util.Set;
import java.util.TreeSet;
import java.util.regex.Matcher;
import java.util.regex.Pattern;

/** Rules of LANGUAGE.md that a look at the source and at the class can tell. */
public final class LanguageTest {
    private static final String FACE = "feed(IIIII)I end(I)Z church()I fault(I)I has(I)I letter(II)I person(II)I pair(III)I kept(II)I"
        + " later(II)I when(I)I pairs(I)I match(I)I steady(I)I rather(II)I teach(II)I change(II)I odds(I)I see()I sizes(I)I"
        + " tells(II)I rounds(I)I chance(I)I part(I)Z learn(III)Z like(III)Z swap(III)Z undo()Z seed(I)Z ask()J image()I"
        + " octet(I)I on()Z status(I)I";

    public static void main(String[] args) throws Exception {
        face();
        String source = bare(Files.readString(Path.of("src/main/java/ClothWedding.java")));
        words(source);
        shapes(source);
        Check.finish("LanguageTest");
    }

    private static String sign(Class<?> type) {
        return type == int.class ? "I" : type == long.class ? "J" : type == boolean.class ? "Z" : "?";
    }

    private static void face() {
        Set<String> found = new TreeSet<>();
        for (Method m : ClothWedding.class.getDeclaredMethods()) {
            if (Modifier.isPrivate(m.getModifiers())) {
                continue;
            }
            StringBuilder s = new StringBuilder(m.getName()).append('(');
            for (Class<?> p : m.getParameterTypes()) {
                s.append(sign(p));
            }
            found.add(s.append(')').append(sign(m.getReturnType())).toString());
            Check.due("public: " + s, Modifier.isPublic(m.getModifiers()), true);
        }
        Check.due("the face: " + found, found.equals(new TreeSet<>(Arrays.asList(FACE.split(" ")))), true);
        for (Field f : ClothWedding.class.getDeclaredFields()) {
            boolean told = f.getName().equals("NONE") || f.getName().equals("NOTHING");
            Check.due("field " + f, Modifier.isPrivate(f.getModifiers()), !told);
        }
        Constructor<?>[] made = ClothWedding.class.getDeclaredConstructors();
        Check.due("one constructor", made.length, 1);
        Check.due("final", Modifier.isFinal(ClothWedding.class.getModifiers()), true);
        innerClasses();
    }

    private static void innerClasses() {
        Set<String> faceNames = new TreeSet<>();
        for (String one : FACE.split(" ")) {
            faceNames.add(one.substring(0, one.indexOf('(')));
        }
        Class<?>[] inside = ClothWedding.class.getDeclaredClasses();
        Check.due("twelve classes at most", inside.length < 12, true);
        for (Class<?> c : inside) {
            Check.due("static: " + c, Modifier.isStatic(c.getModifiers()), true);
            Check.due("not public: " + c, Modifier.isPublic(c.getModifiers()), false);
            for (Method m : c.getDeclaredMethods()) {
                Check.due("no name of the face: " + m, faceNames.contains(m.getName()), false);
                Check.due("seven parameters at most: " + m, m.getParameterCount() <= 7, true);
            }
            fields(c);
        }
        fields(ClothWedding.class);
    }

    private static void fields(Class<?> c) {
        int count = 0;
        for (Field f : c.getDeclaredFields()) {
            if (Modifier.isStatic(f.getModifiers())) {
                Check.due("static and final: " + f, Modifier.isFinal(f.getModifiers()), true);
            } else {
                count++;
            }
        }
        Check.due("twenty fields at most: " + c, count <= 20, true);
    }

    /** The source without comments and with empty texts. */
    private static String bare(String source) {
        return source.replaceAll("(?s)/\\*.*?\\*/", "").replaceAll("//[^\n]*", "").replaceAll("\"[^\"]*\"", "\"\"");
    }

    private static void words(String source) {
        for (String word : new String[] {"throw", "throws", "try", "catch", "synchronized", "assert", "double", "float", "package",
            "native", "volatile", "instanceof", "equals", "hashCode", "toString", "Random", "Thread", "Exact"}) {
            Check.due("no " + word, Pattern.compile("\\b" + word + "\\b").matcher(source).find(), false);
        }
        Check.due("no lambda", source.contains("->"), false);
        Check.due("no method reference", source.contains("::"), false);
        Check.due("no endless loop", source.contains("while (true)") || source.contains("for (;;)"), false);
        Matcher library = Pattern.compile("\\b(Math|Arrays|System|Integer|Long|String|StringBuilder)\\.(\\w+)").matcher(source);
        Set<String> allowed = Set.of("Math.max", "Math.min", "Math.floorDiv", "Math.floorMod", "Math.abs", "Integer.bitCount",
            "Arrays.fill", "Arrays.copyOf", "System.arraycopy");
        while (library.find()) {
            Check.due("library: " + library.group(), allowed.contains(library.group()), true);
        }
        Matcher imports = Pattern.compile("import ([\\w.]+);").matcher(source);
        while (imports.find()) {
            Check.due("import " + imports.group(1), imports.group(1).equals("java.util.Arrays"), true);
        }
        Matcher made = Pattern.compile("new (\\w+)").matcher(source);
        while (made.find()) {
            Check.due("made: " + made.group(1), Set.of("int", "boolean", "Text", "ChurchReader", "Question", "Church", "State",
                "Walk", "Ahead", "Likings", "Past", "Code", "Grammar").contains(made.group(1)), true);
        }
    }

    /** A method begins where a line of four or eight blanks opens a brace behind parameters, and ends at its like. */
    private static void shapes(String source) {
        String[] lines = source.split("\n");
        for (int i = 0; i < lines.length; i++) {
            Matcher head = Pattern.compile("^( {4}(?: {4})?)(?=\\S)[\\w\\[\\] ]+\\([^;]*\\) \\{$").matcher(lines[i]);
            if (!head.matches()) {
                continue;
            }
            int end = i;
            while (end < lines.length && !lines[end].equals(head.group(1) + "}")) {
                end++;
            }
            Check.due("sixty lines at most: " + lines[i].trim(), end - i <= 60, true);
        }
    }
}
