import java.lang.reflect.Field;
import java.lang.reflect.Method;
import java.lang.reflect.Modifier;
import java.nio.file.Files;
import java.nio.file.Path;
import java.util.Arrays;
import java.util.HashSet;
import java.util.List;
import java.util.Set;
import java.util.regex.Matcher;
import java.util.regex.Pattern;

/** Those rules of LANGUAGE.md that can be looked up in the source or in the compiled class. */
public final class LanguageTest {
    private static final String FACE = "plinth head put off change carve pay pass feed end text fault by played undo of "
            + "headOf best seen forget fewest who stood longest tour rounds revolution image back about";
    private static int wrong = 0;

    public static void main(String[] args) throws Exception {
        String source = Files.readString(Path.of("src/main/java/StatuesWhoOwe.java"));
        String code = source.replaceAll("(?s)/\\*.*?\\*/", "").replaceAll("//[^\n]*", "")
                .replaceAll("\"[^\"\n]*\"", "\"\"").replaceAll("'\\\\?.'", "' '");
        words(code);
        arrows(code);
        methods(code);
        face();
        System.out.println(wrong == 0 ? "the rules are kept" : wrong + " rules are not kept");
        if (wrong != 0) {
            System.exit(1);
        }
    }

    private static void rule(int number, String what, boolean kept) {
        if (!kept) {
            wrong++;
            System.out.println("rule " + number + ": " + what);
        }
    }

    private static void words(String code) {
        for (String word : new String[] {"throw", "throws", "try", "catch", "finally", "synchronized", "assert", "package",
            "equals", "hashCode", "toString", "protected", "Random", "Thread", "System.out", "nanoTime", "Exact"}) {
            rule(6, word, !Pattern.compile("\\b" + word + "\\b").matcher(code).find());
        }
        Matcher imports = Pattern.compile("import ([^;]+);").matcher(code);
        while (imports.find()) {
            rule(4, imports.group(), imports.group(1).equals("java.util.Arrays"));
        }
        Matcher library = Pattern.compile("\\b(System|Arrays|Math|Integer|Long)\\.(\\w+)").matcher(code);
        List<String> known = List.of("System.arraycopy", "Arrays.fill", "Math.abs", "Math.min", "Math.max");
        while (library.find()) {
            rule(4, library.group(), known.contains(library.group()));
        }
        rule(2, "::", !code.contains("::"));
        rule(10, "texts joined by +", !Pattern.compile("\"\"\\s*\\+|\\+\\s*\"\"").matcher(code).find());
        rule(11, "classes", code.split("\\bclass\\b").length - 1 <= 12);
        for (char sign : code.toCharArray()) {
            rule(4, "sign " + (int) sign, sign < 128);
        }
    }

    private static void arrows(String code) {
        for (String line : code.split("\n")) {
            if (line.contains("->")) {
                rule(2, line, line.trim().startsWith("case ") || line.trim().startsWith("default "));
            }
        }
    }

    /** A method begins at a line that ends with ") {" and is no statement, and ends at a brace as deep. */
    private static void methods(String code) {
        String[] lines = code.split("\n");
        Pattern begins = Pattern.compile("^( +)(?:(?:public|private|static|final) )*[\\w\\[\\]]+ (\\w+)\\(([^)]*)\\) \\{$");
        Set<String> face = new HashSet<>(Arrays.asList(FACE.split(" ")));
        for (int i = 0; i < lines.length; i++) {
            Matcher m = begins.matcher(lines[i]);
            if (!m.find() || lines[i].trim().startsWith("else") || lines[i].contains("new ")
                    || m.group(2).equals("StatuesWhoOwe")) {
                continue;
            }
            int end = i;
            while (!lines[end].equals(m.group(1) + "}")) {
                end++;
            }
            rule(11, m.group(2) + " has " + (end - i) + " lines", end - i <= 60);
            rule(11, m.group(2) + " has many parameters", m.group(3).split(",").length <= 7);
            boolean isPublic = lines[i].contains("public ");
            rule(1, m.group(2), isPublic == face.contains(m.group(2)));
        }
    }

    private static void face() {
        Set<String> found = new HashSet<>();
        for (Method m : StatuesWhoOwe.class.getDeclaredMethods()) {
            if (!Modifier.isPrivate(m.getModifiers()) && !m.isSynthetic()) {
                rule(1, m.getName(), Modifier.isPublic(m.getModifiers()) && found.add(m.getName()));
            }
        }
        rule(1, "the face", found.equals(new HashSet<>(Arrays.asList(FACE.split(" ")))));
        rule(1, "final", Modifier.isFinal(StatuesWhoOwe.class.getModifiers()));
        for (Field f : StatuesWhoOwe.class.getDeclaredFields()) {
            rule(1, f.getName(), f.getName().equals("NONE") || Modifier.isPrivate(f.getModifiers()));
        }
        for (Class<?> c : StatuesWhoOwe.class.getDeclaredClasses()) {
            int mine = 0;
            for (Field f : c.getDeclaredFields()) {
                boolean isStatic = Modifier.isStatic(f.getModifiers());
                mine += isStatic ? 0 : 1;
                rule(5, c.getName() + "." + f.getName(), !isStatic || Modifier.isFinal(f.getModifiers()));
            }
            rule(11, c.getName() + " has " + mine + " fields", mine <= 20);
            rule(2, c.getName(), Modifier.isStatic(c.getModifiers()));
        }
    }
}
