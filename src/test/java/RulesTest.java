import java.lang.reflect.Constructor;
import java.lang.reflect.Executable;
import java.lang.reflect.Field;
import java.lang.reflect.Method;
import java.lang.reflect.Modifier;
import java.nio.file.Files;
import java.nio.file.Path;
import java.util.Arrays;
import java.util.List;
import java.util.Set;
import java.util.TreeSet;
import java.util.regex.Matcher;
import java.util.regex.Pattern;

/** The public face, and those rules of LANGUAGE.md that can be seen without reading the code. */
public final class RulesTest {
    private static final String SOURCE = "src/main/java/ComeIfShe.java";
    private static final String DOCUMENT = "../shared/DOC.md";

    private static int wrong = 0;

    public static void main(String[] args) throws Exception {
        face();
        members(ComeIfShe.class);
        for (Class<?> inside : ComeIfShe.class.getDeclaredClasses()) {
            must(Modifier.isStatic(inside.getModifiers()), inside + " isn't static");
            must(!Modifier.isPublic(inside.getModifiers()) && !Modifier.isProtected(inside.getModifiers()),
                inside + " can be seen");
            parameters(inside);
            noPublicNames(inside);
        }
        must(ComeIfShe.class.getDeclaredClasses().length <= 12, "too many classes");
        String text = Files.readString(Path.of(SOURCE));
        words(withoutComments(text));
        methods(text);
        headings(text);
        System.out.println(wrong == 0 ? "the rules are kept" : wrong + " rules are broken");
        if (wrong != 0) {
            System.exit(1);
        }
    }

    private static void must(boolean holds, String else_) {
        if (!holds) {
            wrong++;
            System.out.println(else_);
        }
    }

    /** Just the lines of the document's java block. */
    private static void face() throws Exception {
        String text = Files.readString(Path.of(DOCUMENT));
        Matcher lines = Pattern.compile("(?m)^    public ((?:int|long) )?(\\w+)\\((.*)\\);$").matcher(text);
        Set<String> want = new TreeSet<>();
        while (lines.find()) {
            String types = lines.group(3).replaceAll(" \\w+(,|$)", "$1").replace(" ", "");
            want.add((lines.group(1) == null ? "" : lines.group(1)) + lines.group(2) + "(" + types + ")");
        }
        Set<String> got = new TreeSet<>();
        for (Constructor<?> made : ComeIfShe.class.getDeclaredConstructors()) {
            got.add("ComeIfShe(" + types(made) + ")");
            must(Modifier.isPublic(made.getModifiers()), "a constructor isn't public");
        }
        for (Method method : ComeIfShe.class.getDeclaredMethods()) {
            if (Modifier.isPublic(method.getModifiers())) {
                got.add(method.getReturnType() + " " + method.getName() + "(" + types(method) + ")");
            }
        }
        must(want.size() == 43, "the document's face has " + want.size() + " rows");
        must(want.equals(got), "the face is " + got + ", due is " + want);
        must(ComeIfShe.class.getModifiers() == (Modifier.PUBLIC | Modifier.FINAL), "public final class");
    }

    private static String types(Executable of) {
        StringBuilder types = new StringBuilder();
        for (Class<?> type : of.getParameterTypes()) {
            types.append(types.length() == 0 ? "" : ",").append(type.getName());
        }
        return types.toString();
    }

    private static void members(Class<?> of) {
        for (Field field : of.getDeclaredFields()) {
            must(Modifier.isPrivate(field.getModifiers()), field + " isn't private");
            must(!Modifier.isStatic(field.getModifiers()) || Modifier.isFinal(field.getModifiers()),
                field + " is static, not final");
        }
        for (Method method : of.getDeclaredMethods()) {
            must(Modifier.isPublic(method.getModifiers()) || Modifier.isPrivate(method.getModifiers()),
                method + " can be seen in the package");
        }
        noPublicNames(of);
        parameters(of);
    }

    private static void noPublicNames(Class<?> of) {
        Set<String> open = new TreeSet<>();
        for (Method method : ComeIfShe.class.getMethods()) {
            open.add(method.getName());
        }
        for (Method method : of.getDeclaredMethods()) {
            must(Modifier.isPublic(method.getModifiers()) || !open.contains(method.getName()),
                method + " bears the name of a public one");
        }
    }

    private static void parameters(Class<?> of) {
        for (Method method : of.getDeclaredMethods()) {
            must(method.getParameterCount() <= 7, method + " takes too many parameters");
        }
    }

    private static String withoutComments(String text) {
        return text.replaceAll("(?s)/\\*.*?\\*/", "").replaceAll("//[^\n]*", "");
    }

    private static void words(String code) {
        List<String> banned = List.of("throw", "throws", "try", "catch", "finally", "synchronized", "assert",
            "Object", "String", "Random", "System\\.(?!arraycopy)\\w*", "Thread", "double", "float", "goto",
            "\\w+Exact", "hashCode", "equals", "toString", "volatile", "transient", "native");
        for (String word : banned) {
            Matcher found = Pattern.compile("\\b(" + word + ")\\b").matcher(code);
            must(!found.find(), "the code has the word " + word);
        }
        for (String sign : List.of("->", "::", "@", "\"")) {
            must(!code.contains(sign), "the code has " + sign);
        }
        Matcher imports = Pattern.compile("import ([\\w.]+);").matcher(code);
        while (imports.find()) {
            must(imports.group(1).equals("java.util.Arrays"), "import of " + imports.group(1));
        }
        must(code.chars().allMatch(c -> c == '\n' || c >= 32 && c < 127), "signs beyond plain text");
        must(!code.contains("package "), "a package line");
    }

    /** No method is long, and only constructors make anything. */
    private static void methods(String text) {
        Pattern head = Pattern.compile("^( {4}| {8})(?:(?:public|private|static|final) )*(?:[\\w\\[\\]]+ )?(\\w+)\\(.*\\{$");
        String name = null;
        String indent = "";
        int length = 0;
        List<String> makers = Arrays.asList("ComeIfShe", "Party", "Tape", "Telephone", "Sheet");
        for (String line : text.split("\n")) {
            Matcher start = head.matcher(line);
            if (name == null && start.matches()) {
                name = start.group(2);
                indent = start.group(1);
                length = 0;
            }
            length++;
            must(!line.matches(".*\\bnew \\w.*") || line.trim().startsWith("*") || line.trim().startsWith("/")
                || name != null && makers.contains(name), "made outside a constructor: " + line);
            if (name != null && line.equals(indent + "}")) {
                must(length <= 60, name + " has " + length + " lines");
                name = null;
            }
        }
    }

    /** The calls stand in the document's order, under the headings that it tells. */
    private static void headings(String text) throws Exception {
        Matcher told = Pattern.compile("Ahead of the calls (.*) the interface says: (---- .*)\\.")
            .matcher(Files.readString(Path.of(DOCUMENT)));
        int seen = 0;
        while (told.find()) {
            seen++;
            String heading = "// " + told.group(2) + "\n";
            int start = text.indexOf(heading);
            must(start >= 0, "no heading " + heading);
            int end = text.indexOf("// ----", start + heading.length());
            Matcher calls = Pattern.compile("(?m)^    public \\w+ (\\w+)\\(").matcher(text).region(Math.max(start, 0), end);
            StringBuilder got = new StringBuilder();
            while (calls.find()) {
                got.append(got.length() == 0 ? "`" : ", `").append(calls.group(1)).append('`');
            }
            must(got.toString().equals(told.group(1)), "under " + heading + " stand " + got + ", due is " + told.group(1));
        }
        must(seen == 6, "the document tells " + seen + " headings");
    }
}
