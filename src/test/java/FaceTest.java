import java.lang.reflect.Field;
import java.lang.reflect.Method;
import java.lang.reflect.Modifier;
import java.nio.charset.StandardCharsets;
import java.nio.file.Files;
import java.nio.file.Path;
import java.util.Set;
import java.util.TreeSet;
import java.util.regex.Matcher;
import java.util.regex.Pattern;

/** The public face as the document has it, and those rules of LANGUAGE.md that can be seen from outside or in the text. */
public final class FaceTest {
    static int wrong = 0;

    static void check(String rule, boolean holds) {
        if (!holds) {
            wrong++;
            System.out.println("not so: " + rule);
        }
    }

    static final String[] FACE = {
        "int chest(int)", "int rate(int)", "int person(int,int,int)", "int loan(int,int,int)", "int offer(int,int)",
        "int none()", "int type(int)", "int clear()", "int read()", "int pass(int)", "int join(int,int)",
        "int sell(int,int,int)", "int undo()", "int whose(int,int)", "int about(int,int)", "int foretold(int,int)",
        "int purse(int,int)", "int loanThen(int,int,int)", "int lack(int)", "int holds(int)", "int best(int,int)",
        "int joins()", "int run(int)", "int will(int,int,int)", "int whom(int,int)", "int price(int)", "int luck(int,int)",
        "int drawn(int,int,int,int)", "long part(int)", "int image(int)", "int from(int)", "int status(int)",
        "int count(int)", "long digest()"};

    static String told(Method m) {
        StringBuilder s = new StringBuilder(m.getReturnType().getName() + " " + m.getName() + "(");
        for (Class<?> c : m.getParameterTypes()) s.append(s.charAt(s.length() - 1) == '(' ? "" : ",").append(c.getName());
        return s.append(")").toString();
    }

    static void face() {
        Class<?> c = BackLoans.class;
        check("public and final", Modifier.isPublic(c.getModifiers()) && Modifier.isFinal(c.getModifiers()));
        check("one public constructor", c.getDeclaredConstructors().length == 1 && c.getConstructors().length == 1
                && c.getConstructors()[0].getParameterCount() == 0);
        Set<String> methods = new TreeSet<>(), names = new TreeSet<>();
        for (Method m : c.getDeclaredMethods()) {
            if (Modifier.isPrivate(m.getModifiers())) continue;
            check(m + " is public, not static", Modifier.isPublic(m.getModifiers()) && !Modifier.isStatic(m.getModifiers()));
            methods.add(told(m));
            names.add(m.getName());
        }
        check("the methods of the face and no other", methods.equals(new TreeSet<>(Set.of(FACE))));
        Set<String> constants = new TreeSet<>();
        for (Field f : c.getDeclaredFields()) {
            check(f + ": static ones are final", !Modifier.isStatic(f.getModifiers()) || Modifier.isFinal(f.getModifiers()));
            if (!Modifier.isPrivate(f.getModifiers())) constants.add(f.getName());
        }
        check("the constants of the face and no other", constants.equals(Set.of("NONE", "BAD", "NO", "FULL")));
        insides(c, names);
    }

    static void insides(Class<?> c, Set<String> names) {
        check("some twelve classes", c.getDeclaredClasses().length <= 11);
        for (Class<?> inside : c.getDeclaredClasses()) {
            check(inside + " is static", Modifier.isStatic(inside.getModifiers()));
            check(inside + " is not public", !Modifier.isPublic(inside.getModifiers()) && !Modifier.isProtected(inside.getModifiers()));
            int fields = 0;
            for (Field f : inside.getDeclaredFields()) if (!Modifier.isStatic(f.getModifiers())) fields++;
            check(inside + " has some twenty fields", fields <= 20);
            for (Method m : inside.getDeclaredMethods()) check(m + " bears a name of the face", !names.contains(m.getName()));
        }
        for (Method m : c.getDeclaredMethods()) {
            if (Modifier.isPrivate(m.getModifiers())) check(m + " bears a name of the face", !names.contains(m.getName()));
        }
    }

    static void text(String source) {
        for (int i = 0; i < source.length(); i++) check("sign " + i, source.charAt(i) < 128);
        String code = source.replaceAll("(?s)/\\*.*?\\*/", "").replaceAll("//[^\n]*", "");
        String[] words = {"throw", "throws", "try", "catch", "finally", "synchronized", "assert", "import", "package",
            "protected", "volatile", "null", "instanceof", "double", "float", "Exact", "System.out", "hashCode", "toString"};
        for (String w : words) check("no " + w, !Pattern.compile("\\b" + w + "\\b").matcher(code).find());
        check("no lambda, no method reference", !code.contains("->") && !code.contains("::"));
        // Rows are made with the object alone, so that a run's room does not depend on its calls.
        for (String line : code.split("\n")) {
            if (Pattern.compile("\\bnew\\b").matcher(line).find()) {
                check("made in a field: " + line, line.matches("\\s*(private )?final [\\w\\[\\]]+ \\w+ = new [^;]*;"));
            }
        }
        lengths(code);
    }

    static void lengths(String code) {
        Matcher m = Pattern.compile("(?m)^( {4}| {8})(?:public |private |static )*[\\w\\[\\]]+ \\w+\\(([^)]*)\\) \\{$").matcher(code);
        int methods = 0;
        while (m.find()) {
            methods++;
            int end = code.indexOf("\n" + m.group(1) + "}", m.start());
            check("ends: " + m.group(), end > 0);
            long lines = code.substring(m.start(), end).lines().count();
            check("some sixty lines: " + m.group(), lines <= 60);
            check("seven parameters: " + m.group(), m.group(2).split(",").length <= 7);
        }
        check("methods were found", methods > 80);
    }

    public static void main(String[] args) throws Exception {
        face();
        Path path = Path.of(args.length > 0 ? args[0] : "src/main/java/BackLoans.java");
        text(Files.readString(path, StandardCharsets.UTF_8));
        System.out.println(wrong == 0 ? "the face is as told" : wrong + " rules are broken");
        if (wrong != 0) System.exit(1);
    }
}
