import java.lang.reflect.Constructor;
import java.lang.reflect.Field;
import java.lang.reflect.Method;
import java.lang.reflect.Modifier;
import java.nio.charset.StandardCharsets;
import java.nio.file.Files;
import java.nio.file.Path;
import java.util.ArrayList;
import java.util.List;
import java.util.Set;
import java.util.TreeSet;
import java.util.regex.Matcher;
import java.util.regex.Pattern;

/** The public face, and of the rules of the language those that can be seen without understanding. */
final class RulesTest {
    private static final String FACE = """
            int feed int int int int int
            int end int
            int text int int
            int fault int
            int court int int
            boolean wall int int
            int judge int int int
            int pleader int int boolean
            int far int int int
            int comes int int int int
            int ears int int int int
            int pulpit int int int boolean
            int near int int int int
            int round int int int int
            int echo int int int int
            int deed int int int
            int stop int int
            int stands int int int int boolean
            int knows int int int int
            int heard int int int
            int rule int int int
            int votes int int int int
            int sway int int int int
            int sold int int int boolean
            int seats int int int
            int claim int int int
            int lips int int int int
            int drawn int int int int int
            int hush int int int int
            int bench int int int
            int idle int int int
            int persuade int int int int
            int areas int int
            int mouth int int boolean
            int rift int int int
            int count int
            boolean image int
            boolean again int
            """;

    private static int wrong = 0;

    private static void hold(String what, boolean so) {
        if (!so) {
            wrong++;
            System.out.println("not so: " + what);
        }
    }

    public static void main(String[] args) throws Exception {
        face();
        List<Class<?>> classes = new ArrayList<>(List.of(OneEared.class.getDeclaredClasses()));
        hold("at most twelve classes", classes.size() < 12);
        for (Class<?> inner : classes) {
            hold(inner + " is static", Modifier.isStatic(inner.getModifiers()));
            hold(inner + " is not public", !Modifier.isPublic(inner.getModifiers()));
        }
        classes.add(OneEared.class);
        for (Class<?> one : classes) {
            members(one);
        }
        words(Files.readString(Path.of("src/main/java/OneEared.java"), StandardCharsets.ISO_8859_1));
        System.out.println(wrong == 0 ? "the rules hold" : wrong + " rules do not hold");
        if (wrong != 0) {
            System.exit(1);
        }
    }

    private static void face() throws Exception {
        Set<String> due = new TreeSet<>(List.of(FACE.strip().split("\n")));
        Set<String> got = new TreeSet<>();
        for (Method method : OneEared.class.getDeclaredMethods()) {
            if (!Modifier.isPrivate(method.getModifiers())) {
                StringBuilder line = new StringBuilder(method.getReturnType() + " " + method.getName());
                for (Class<?> type : method.getParameterTypes()) {
                    line.append(' ').append(type);
                }
                hold(line + " is public", Modifier.isPublic(method.getModifiers()));
                hold(line + " is no static one", !Modifier.isStatic(method.getModifiers()));
                got.add(line.toString());
            }
        }
        hold("the face: " + got, got.equals(due));
        hold("final", Modifier.isFinal(OneEared.class.getModifiers()));
        hold("public", Modifier.isPublic(OneEared.class.getModifiers()));
        Constructor<?>[] makers = OneEared.class.getDeclaredConstructors();
        hold("one constructor", makers.length == 1 && makers[0].getParameterCount() == 0);
        Field none = OneEared.class.getField("NONE");
        hold("NONE", none.getInt(null) == -1 && OneEared.class.getFields().length == 1);
    }

    private static void members(Class<?> one) {
        int fields = 0;
        for (Field field : one.getDeclaredFields()) {
            boolean fixed = Modifier.isStatic(field.getModifiers());
            hold(field + " is final", !fixed || Modifier.isFinal(field.getModifiers()));
            boolean hidden = one != OneEared.class || Modifier.isPrivate(field.getModifiers());
            hold(field + " is private", hidden || field.getName().equals("NONE"));
            fields += fixed ? 0 : 1;
        }
        hold(one + " has some twenty fields at most", fields <= 20);
        for (Method method : one.getDeclaredMethods()) {
            hold(method + " has at most seven parameters", method.getParameterCount() <= 7);
            boolean face = one == OneEared.class && Modifier.isPublic(method.getModifiers());
            boolean borrowed = (" " + FACE).contains(" " + method.getName() + " ");
            hold(method + " has a name of its own", face || !borrowed);
        }
    }

    private static void words(String source) {
        for (int i = 0; i < source.length(); i++) {
            char sign = source.charAt(i);
            hold("plain signs, not " + (int) sign, sign == '\n' || sign >= 32 && sign < 127);
        }
        String code = source.replaceAll("(?s)/\\*.*?\\*/", "").replaceAll("//[^\n]*", "").replaceAll("\"[^\"\n]*\"", "\"\"");
        String[] banned = {"throw", "throws", "try", "catch", "synchronized", "assert", "package", "instanceof", "volatile", "native",
            "float", "double", "Object", "System.out", "hashCode", "toString", "Random", "Exact", "var"};
        for (String word : banned) {
            hold("no " + word, !Pattern.compile("\\b" + Pattern.quote(word) + "\\b").matcher(code).find());
        }
        hold("no lambda", !code.contains("->"));
        hold("no method reference", !code.contains("::"));
        Matcher imports = Pattern.compile("import ([\\w.]+);").matcher(code);
        while (imports.find()) {
            hold("import " + imports.group(1), Set.of("java.util.Arrays", "java.util.ArrayList", "java.util.List").contains(imports.group(1)));
        }
        Matcher library = Pattern.compile("\\b(System|Arrays|Math|Integer|Long)\\.(\\w+)").matcher(code);
        Set<String> allowed = Set.of("System.arraycopy", "Arrays.fill", "Arrays.copyOf", "Arrays.copyOfRange", "Math.max", "Math.min", "Math.abs",
                "Integer.bitCount", "Long.bitCount", "Long.numberOfTrailingZeros", "Long.lowestOneBit");
        while (library.find()) {
            hold("library " + library.group(), allowed.contains(library.group()));
        }
        lengths(source.split("\n"));
    }

    private static void lengths(String[] lines) {
        for (int i = 0; i < lines.length; i++) {
            int indent = lines[i].length() - lines[i].stripLeading().length();
            boolean method = (indent == 4 || indent == 8) && lines[i].endsWith(") {");
            for (int k = i; method && k < lines.length; k++) {
                if (lines[k].equals(" ".repeat(indent) + "}")) {
                    hold("short: " + lines[i].strip(), k - i < 60);
                    break;
                }
            }
        }
    }
}
