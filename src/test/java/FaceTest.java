import java.io.IOException;
import java.lang.reflect.Constructor;
import java.lang.reflect.Field;
import java.lang.reflect.Method;
import java.lang.reflect.Modifier;
import java.nio.file.Files;
import java.nio.file.Path;
import java.util.Arrays;
import java.util.HashSet;
import java.util.Set;
import java.util.TreeSet;
import java.util.regex.Matcher;
import java.util.regex.Pattern;

/** The public face, and such rules of LANGUAGE.md as can be seen from the text and the compiled class. */
public final class FaceTest {
    private static final Check check = new Check();
    private static final String[] FACE = {
        "int feed(int,int,int,int,int)", "boolean end(int)", "int person(int,int,int)", "int post(int,int)",
        "boolean seat(int,int)", "int reign(int)", "int fault(int)", "int paper(int,int,int,int,int,int)",
        "int death(int,int)", "int resign(int,int,int)", "int swap(int,int,int)", "int disprove(int)",
        "boolean as(int)", "int holder(int,int)", "int paperOf(int,int)", "int posts(int,int)", "long due(int,int)",
        "int claims(int,int)", "int claim(int)", "int by(int,int,int,int)", "int since(int)", "int all(int)",
        "int wish(int,int)", "int content(int)", "int rings()", "int got(int)"};

    public static void main(String[] args) throws IOException {
        face();
        insides();
        text();
        lengths();
        check.finish();
    }

    private static void face() {
        Class<?> type = PaperChancery.class;
        check.due("public final", type.getModifiers() & (Modifier.PUBLIC | Modifier.FINAL),
                Modifier.PUBLIC | Modifier.FINAL);
        Set<String> found = new TreeSet<>();
        for (Method method : type.getDeclaredMethods()) {
            if (!Modifier.isPrivate(method.getModifiers())) {
                check.due(method + " is public and not static", Modifier.isPublic(method.getModifiers())
                        && !Modifier.isStatic(method.getModifiers()), true);
                String parameters = Arrays.toString(method.getParameterTypes()).replaceAll("[\\[\\] ]", "");
                found.add(method.getReturnType() + " " + method.getName() + "(" + parameters + ")");
            }
        }
        Set<String> due = new TreeSet<>(Arrays.asList(FACE));
        check.due("methods " + found + " are " + due, found.equals(due), true);
        for (Field field : type.getDeclaredFields()) {
            boolean isNone = field.getName().equals("NONE");
            check.due(field + " is private, but for NONE", Modifier.isPrivate(field.getModifiers()), !isNone);
        }
        Constructor<?>[] constructors = type.getConstructors();
        check.due("one public constructor", constructors.length, 1);
        check.due("without parameters", constructors[0].getParameterCount(), 0);
        check.due("and no other", type.getDeclaredConstructors().length, 1);
    }

    private static void insides() {
        Set<String> names = new HashSet<>();
        for (Method method : PaperChancery.class.getMethods()) {
            names.add(method.getName());
        }
        check.due("at most twelve classes", PaperChancery.class.getDeclaredClasses().length <= 11, true);
        for (Class<?> inside : PaperChancery.class.getDeclaredClasses()) {
            check.due(inside + " is static", Modifier.isStatic(inside.getModifiers()), true);
            check.due(inside + " has some twenty fields", inside.getDeclaredFields().length <= 20, true);
            for (Method method : inside.getDeclaredMethods()) {
                check.due(method + " bears no name of the face", names.contains(method.getName()), false);
                check.due(method + " has at most seven parameters", method.getParameterCount() <= 7, true);
            }
        }
        for (Method method : PaperChancery.class.getDeclaredMethods()) {
            check.due(method + " bears no name of the face", Modifier.isPrivate(method.getModifiers())
                    && names.contains(method.getName()), false);
        }
    }

    private static void text() throws IOException {
        String text = Files.readString(Path.of("src/main/java/PaperChancery.java"));
        String code = text.replaceAll("(?s)/\\*.*?\\*/", "").replaceAll("//[^\n]*", "").replaceAll("\"[^\"]*\"", "\"\"");
        String[] banned = {"\\bthrow\\b", "\\bthrows\\b", "\\btry\\b", "\\bcatch\\b", "\\bsynchronized\\b", "\\bassert\\b",
            "->", "::", "\\bpackage\\b", "Exact\\b", "\\bprotected\\b", "\\bstatic\\s*\\{", "\\bhashCode\\b",
            "\\btoString\\b", "\\bSystem\\.(?!arraycopy)", "\\bwhile\\s*\\(true\\)", "\"\"\\s*\\+", "\\+\\s*\"\""};
        for (String word : banned) {
            Matcher matcher = Pattern.compile(word).matcher(code);
            check.due(word + " stands in the text", matcher.find(), false);
        }
        Matcher imports = Pattern.compile("(?m)^import (.*);$").matcher(code);
        while (imports.find()) {
            check.due("import of " + imports.group(1), imports.group(1).equals("java.util.Arrays"), true);
        }
    }

    /** A method begins with a line that opens a brace at the depth of members, and ends with the brace at that depth. */
    private static void lengths() throws IOException {
        Pattern begin = Pattern.compile("( {4}| {8})(?!.*\\bclass\\b)\\w.*\\(.*\\) \\{");
        String name = "";
        String end = null;
        int length = 0;
        int methods = 0;
        for (String line : Files.readAllLines(Path.of("src/main/java/PaperChancery.java"))) {
            Matcher matcher = begin.matcher(line);
            length++;
            if (end == null && matcher.matches()) {
                name = line.trim();
                end = matcher.group(1) + "}";
                length = 1;
            } else if (line.equals(end)) {
                check.due(name + " has some sixty lines at most", length <= 60, true);
                end = null;
                methods++;
            }
        }
        check.due("methods and constructors were found", methods > FACE.length, true);
    }
}
