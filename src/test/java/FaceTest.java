import java.lang.reflect.Constructor;
import java.lang.reflect.Field;
import java.lang.reflect.Method;
import java.lang.reflect.Modifier;
import java.io.IOException;
import java.nio.file.Files;
import java.nio.file.Path;
import java.util.ArrayList;
import java.util.Arrays;
import java.util.List;
import java.util.TreeSet;
import java.util.regex.Matcher;
import java.util.regex.Pattern;

/** The public face as the document has it, and those rules of LANGUAGE.md that can be read off. */
public final class FaceTest {
    private static final String[] FACE = {
        "boolean factors(int)", "int term(int)", "boolean drop(int)", "boolean plan(int,int)", "void clear()",
        "int about(int)", "int mark(int,int)", "int table(int,int)", "long worth()",
        "int known(int,int,int,int,int)", "long spread(int,int,int,int,int,int)", "long widest(int)",
        "int needed()", "boolean best(int)", "int bests(int)", "boolean swap()", "int next()",
        "boolean word(int,int,int)", "int part(int)", "int alike(int)", "int alikeOf(int,int)",
        "int length(int)", "boolean bestPart(int)", "int chain()", "int chainOf(int)", "int see(int,int)",
        "void forget()", "long weight(int,int,int,int,int,int)", "long miss(int)", "boolean undo()"};

    private static final String[] BANNED = {
        "\\bthrow\\b", "\\bthrows\\b", "\\btry\\b", "\\bcatch\\b", "\\bsynchronized\\b", "\\bassert\\b", "->", "::",
        "\\bRandom\\b", "\\bSystem\\.(?!arraycopy\\b)", "Exact\\b", "\\bpackage\\b", "\\bThread\\b",
        "\\bHashMap\\b", "\\bObject\\b", "\\bequals\\(", "\\bhashCode\\b", "\\btoString\\b", "\\bwhile \\(true\\)",
        "\\bstatic \\{", "\\bArrays\\.(?!copyOf\\b|copyOfRange\\b|fill\\b)", "\\bfor \\(;;\\)", "\\bprotected\\b"};

    private static int wrong = 0;

    public static void main(String[] args) throws IOException {
        face();
        Class<?>[] inside = TrialDesk.class.getDeclaredClasses();
        for (Class<?> one : inside) {
            insideClass(one);
        }
        isTrue("some twelve classes", inside.length < 12);
        source(Files.readString(Path.of("src/main/java/TrialDesk.java")));
        System.out.println(wrong == 0 ? "the face and the rules hold" : wrong + " faults");
        if (wrong != 0) {
            System.exit(1);
        }
    }

    private static void isTrue(String rule, boolean holds) {
        if (!holds) {
            wrong++;
            System.out.println("broken: " + rule);
        }
    }

    private static void face() {
        TreeSet<String> open = new TreeSet<>();
        TreeSet<String> openNames = new TreeSet<>();
        List<String> hiddenNames = new ArrayList<>();
        for (Method m : TrialDesk.class.getDeclaredMethods()) {
            if (Modifier.isPrivate(m.getModifiers())) {
                hiddenNames.add(m.getName());
            } else {
                isTrue(m + " is public and no more", m.getModifiers() == Modifier.PUBLIC);
                openNames.add(m.getName());
                open.add(signature(m));
            }
            isTrue(m + " has at most seven parameters", m.getParameterCount() <= 7);
        }
        isTrue("the face's methods: " + open, open.equals(new TreeSet<>(Arrays.asList(FACE))));
        for (Class<?> one : TrialDesk.class.getDeclaredClasses()) {
            for (Method m : one.getDeclaredMethods()) {
                hiddenNames.add(m.getName());
            }
        }
        for (String name : hiddenNames) {
            isTrue("no other method bears the name " + name, !openNames.contains(name));
        }
        for (Field f : TrialDesk.class.getDeclaredFields()) {
            boolean isNone = f.getName().equals("NONE");
            isTrue(f + " is private", isNone || Modifier.isPrivate(f.getModifiers()));
        }
        Constructor<?>[] made = TrialDesk.class.getDeclaredConstructors();
        isTrue("one public constructor", made.length == 1 && made[0].getParameterCount() == 0
            && Modifier.isPublic(made[0].getModifiers()));
        int how = TrialDesk.class.getModifiers();
        isTrue("public and final", Modifier.isPublic(how) && Modifier.isFinal(how));
        fields(TrialDesk.class);
    }

    private static String signature(Method m) {
        StringBuilder s = new StringBuilder(m.getReturnType() + " " + m.getName() + "(");
        for (Class<?> type : m.getParameterTypes()) {
            s.append(s.charAt(s.length() - 1) == '(' ? "" : ",").append(type);
        }
        return s.append(")").toString();
    }

    private static void insideClass(Class<?> one) {
        isTrue(one + " is static", Modifier.isStatic(one.getModifiers()));
        isTrue(one + " is not open", !Modifier.isPublic(one.getModifiers()) && !Modifier.isProtected(one.getModifiers()));
        fields(one);
        for (Method m : one.getDeclaredMethods()) {
            isTrue(m + " has at most seven parameters", m.getParameterCount() <= 7);
            isTrue(m + " is made by no compiler", !m.isSynthetic());
        }
    }

    private static void fields(Class<?> one) {
        int own = 0;
        for (Field f : one.getDeclaredFields()) {
            if (Modifier.isStatic(f.getModifiers())) {
                isTrue(f + " is final", Modifier.isFinal(f.getModifiers()));
            } else {
                own++;
            }
        }
        isTrue(one + " has some twenty fields at most", own <= 20);
    }

    private static void source(String text) {
        String code = text.replaceAll("(?s)/\\*.*?\\*/", "").replaceAll("//[^\n]*", "");
        for (String banned : BANNED) {
            Matcher m = Pattern.compile(banned).matcher(code);
            isTrue("not in the language: " + banned, !m.find());
        }
        // rule 4 lists the functions of these, not their constants
        Matcher library = Pattern.compile("\\b(Integer|Long|Math|Short|Byte|Character|Boolean|Double|Float)\\.\\w+(.)")
            .matcher(code);
        while (library.find()) {
            boolean isFunction = library.group(1).matches("Integer|Long|Math") && library.group(2).equals("(");
            isTrue("not in the library: " + library.group(), isFunction);
        }
        Matcher imports = Pattern.compile("import ([^;]*);").matcher(code);
        while (imports.find()) {
            isTrue("import " + imports.group(1), imports.group(1).equals("java.util.Arrays"));
        }
        int lines = 0;
        for (String line : code.split("\n")) {
            boolean isHead = line.matches("( {4}| {8})[a-z][^;=]*\\) \\{");
            lines = isHead ? 0 : lines + 1;
            if (line.matches("( {4}| {8})\\}")) {
                isTrue("a method of " + lines + " lines", lines <= 60);
                lines = 0;
            }
        }
    }
}
