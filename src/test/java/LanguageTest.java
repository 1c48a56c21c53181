import java.io.IOException;
import java.lang.reflect.Constructor;
import java.lang.reflect.Field;
import java.lang.reflect.Method;
import java.lang.reflect.Modifier;
import java.nio.file.Files;
import java.nio.file.Path;
import java.util.ArrayList;
import java.util.Arrays;
import java.util.List;
import java.util.Set;
import java.util.TreeSet;
import java.util.regex.Matcher;
import java.util.regex.Pattern;

/** Rules of LANGUAGE.md that the source's text and the class's face can tell. */
public final class LanguageTest {
    private static final String[] FACE = {
        "int letters(long)", "int blank()", "int fault()", "int yard()", "int about(int,int)", "int as(int,int)",
        "int lever(int,int)", "int anew()", "int down()", "int many(int)", "int truck(int,int)", "int moves()",
        "int round()", "int straight()", "int nth(int)", "int behind(int,int)", "int ago(int,int)", "int want(int)",
        "int clear()", "int begin(int)", "int hands()", "int empty(int)", "int which()", "int noticed()",
        "int apart()", "int image()", "int restore()", "int count(int)", "long digest()"};
    private static final String[] NO_WORDS = {
        "throw", "throws", "try", "catch", "finally", "synchronized", "assert", "volatile", "native", "var",
        "Object", "System.out", "System.nanoTime", "Thread", "Random", "equals", "hashCode", "toString"};
    private static int wrong = 0;

    public static void main(String[] args) throws IOException {
        Path root = Path.of(System.getProperty("project.root", "."));
        String source = Files.readString(root.resolve("src/main/java/PointsThrow.java"));
        List<Class<?>> classes = new ArrayList<>();
        classes.add(PointsThrow.class);
        classes.addAll(Arrays.asList(PointsThrow.class.getDeclaredClasses()));
        face();
        for (Class<?> one : classes) {
            members(one);
        }
        rule(classes.size() <= 12, "11: classes " + classes.size());
        text(source);
        methodLengths(source);
        System.out.println("LanguageTest: " + wrong + " wrong");
        System.exit(wrong == 0 ? 0 : 1);
    }

    private static void rule(boolean kept, String what) {
        if (!kept) {
            wrong++;
            System.out.println("rule " + what);
        }
    }

    private static void face() {
        Set<String> due = new TreeSet<>(Arrays.asList(FACE));
        Set<String> got = new TreeSet<>();
        for (Method m : PointsThrow.class.getDeclaredMethods()) {
            if (!Modifier.isPrivate(m.getModifiers())) {
                rule(Modifier.isPublic(m.getModifiers()), "1: " + m + " is seen outside");
                got.add(signature(m));
            }
        }
        rule(due.equals(got), "1: the face is " + got);
        int mods = PointsThrow.class.getModifiers();
        rule(Modifier.isPublic(mods) && Modifier.isFinal(mods), "1: the class is public and final");
        Constructor<?>[] made = PointsThrow.class.getDeclaredConstructors();
        rule(made.length == 1 && made[0].getParameterCount() == 0, "1: one constructor");
        Set<String> constants = new TreeSet<>();
        for (Field f : PointsThrow.class.getDeclaredFields()) {
            if (!Modifier.isPrivate(f.getModifiers())) {
                constants.add(f.getName());
            }
        }
        rule(constants.equals(Set.of("NONE", "UNKNOWN", "OUTSIDE", "STATE", "FULL")), "1: constants " + constants);
    }

    private static String signature(Method m) {
        StringBuilder text = new StringBuilder(m.getReturnType().getSimpleName()).append(' ').append(m.getName());
        text.append('(');
        for (Class<?> p : m.getParameterTypes()) {
            text.append(text.charAt(text.length() - 1) == '(' ? "" : ",").append(p.getSimpleName());
        }
        return text.append(')').toString();
    }

    private static void members(Class<?> one) {
        boolean outer = one == PointsThrow.class;
        rule(outer || Modifier.isStatic(one.getModifiers()), "2: " + one + " is static");
        int fields = 0;
        for (Field f : one.getDeclaredFields()) {
            boolean isStatic = Modifier.isStatic(f.getModifiers());
            rule(!isStatic || Modifier.isFinal(f.getModifiers()), "5: " + f + " is final");
            fields += isStatic ? 0 : 1;
        }
        rule(fields <= 20, "11: fields of " + one);
        for (Method m : one.getDeclaredMethods()) {
            rule(m.getParameterCount() <= 7, "11: parameters of " + m);
            rule(!m.isSynthetic(), "2: " + m + " was made by the compiler");
            boolean isPublic = Modifier.isPublic(m.getModifiers());
            for (String called : FACE) {
                rule(isPublic || !called.contains(" " + m.getName() + "("), "1: " + m + " bears a public name");
            }
        }
        for (Constructor<?> c : one.getDeclaredConstructors()) {
            rule(c.getParameterCount() <= 7, "11: parameters of " + c);
        }
    }

    private static void text(String source) {
        for (int i = 0; i < source.length(); i++) {
            rule(source.charAt(i) < 127, "4: the sign at " + i);
        }
        String code = source.replaceAll("(?s)/\\*.*?\\*/", "").replaceAll("//[^\n]*", "");
        for (String word : NO_WORDS) {
            rule(!Pattern.compile("\\b" + Pattern.quote(word) + "\\b").matcher(code).find(), "4, 6: " + word);
        }
        rule(!code.contains("->") && !code.contains("::"), "2: no lambda, no method reference");
        rule(!code.contains("Exact("), "4: none whose name ends in Exact");
        rule(!code.contains("package "), "no package line");
        Matcher imports = Pattern.compile("import ([^;]*);").matcher(code);
        while (imports.find()) {
            rule(imports.group(1).equals("java.util.Arrays"), "4: import " + imports.group(1));
        }
        Matcher calls = Pattern.compile("\\b([A-Z][a-z]+)\\.(\\w+)\\(").matcher(code);
        Set<String> allowed = Set.of("Arrays.fill", "Math.max", "Math.min", "Math.floorMod", "Integer.bitCount",
            "System.arraycopy");
        while (calls.find()) {
            String call = calls.group(1) + "." + calls.group(2);
            rule(allowed.contains(call), "4: " + call);
        }
    }

    private static void methodLengths(String source) {
        String[] lines = source.split("\n");
        Pattern head = Pattern.compile("^( {4}| {8})[A-Za-z][\\w<>\\[\\] ]*\\([^;]*\\{$");
        for (int i = 0; i < lines.length; i++) {
            if (head.matcher(lines[i]).matches() && !lines[i].trim().startsWith("if")) {
                String end = lines[i].replaceAll("^( *).*", "$1}");
                int last = i;
                while (last < lines.length && !lines[last].equals(end)) {
                    last++;
                }
                rule(last - i < 60, "11: " + lines[i].trim() + " has " + (last - i) + " lines");
            }
        }
    }
}
