import java.lang.reflect.Constructor;
import java.lang.reflect.Field;
import java.lang.reflect.Method;
import java.lang.reflect.Modifier;
import java.nio.file.Files;
import java.nio.file.Path;
import java.util.ArrayList;
import java.util.List;
import java.util.Set;
import java.util.TreeSet;
import java.util.regex.Matcher;
import java.util.regex.Pattern;

/** The public face of the document, and what of LANGUAGE.md a look at the class and its text can tell. */
public final class FaceTest {
    private static final Check check = new Check();
    private static final String[] FACE = {
        "int feed int int int int int", "boolean end int", "int tell", "int fault", "int place int int int int",
        "int road int int int int int", "boolean turn int int", "boolean set int int int", "int drop",
        "int move int int boolean int", "int back int", "int count int", "int of int int", "int along int int",
        "int safe int", "int quickest", "boolean open int int int", "int openings int int", "int shut int",
        "int wider int boolean int", "int turned int int", "int bestTurn int", "int turns int int", "int roomy int int",
        "int best int", "int latest int", "int worst", "int lacks int int boolean", "int moved int int", "int wrong",
        "int planned int", "int there int int int"};

    public static void main(String[] args) throws Exception {
        face();
        members();
        text(Files.readString(Path.of("src/main/java/QuickestOut.java")));
        check.end("FaceTest");
    }

    private static void face() throws Exception {
        Set<String> due = new TreeSet<>(List.of(FACE));
        Set<String> are = new TreeSet<>();
        for (Method m : QuickestOut.class.getDeclaredMethods()) {
            if (Modifier.isPublic(m.getModifiers())) {
                StringBuilder row = new StringBuilder(m.getReturnType() + " " + m.getName());
                for (Class<?> p : m.getParameterTypes()) {
                    row.append(' ').append(p);
                }
                are.add(row.toString());
                check.due(m.getName() + " is static", false, Modifier.isStatic(m.getModifiers()));
            }
        }
        check.due("public methods " + are + ", due are " + due, true, are.equals(due));
        Constructor<?>[] constructors = QuickestOut.class.getDeclaredConstructors();
        check.due("constructors", 1, constructors.length);
        check.due("parameters of it", 0, constructors[0].getParameterCount());
        check.due("it is public", true, Modifier.isPublic(constructors[0].getModifiers()));
        check.due("the class is public and final", Modifier.PUBLIC | Modifier.FINAL, QuickestOut.class.getModifiers());
        Field none = QuickestOut.class.getField("NONE");
        check.due("NONE is static and final", true, Modifier.isStatic(none.getModifiers()) && Modifier.isFinal(none.getModifiers()));
        Class<?>[] thrown = QuickestOut.class.getMethod("along", int.class, int.class).getExceptionTypes();
        check.due("along throws", true, thrown.length == 1 && thrown[0] == java.util.NoSuchElementException.class);
    }

    /** Rules 1, 5 and 11. */
    private static void members() {
        Set<String> publics = new TreeSet<>();
        for (String row : FACE) {
            publics.add(row.split(" ")[1]);
        }
        List<Class<?>> all = new ArrayList<>(List.of(QuickestOut.class.getDeclaredClasses()));
        for (Class<?> inside : all) {
            int flags = inside.getModifiers();
            check.due(inside + " is static, neither public nor protected", true, Modifier.isStatic(flags)
                && !Modifier.isPublic(flags) && !Modifier.isProtected(flags));
        }
        all.add(QuickestOut.class);
        check.due("twelve classes at most", true, all.size() <= 12);
        for (Class<?> c : all) {
            int own = 0;
            for (Field f : c.getDeclaredFields()) {
                boolean constant = Modifier.isStatic(f.getModifiers());
                check.due(c + " " + f.getName() + " is final if static", true, !constant || Modifier.isFinal(f.getModifiers()));
                own += constant ? 0 : 1;
                check.due(c + " " + f.getName() + " is private, but for NONE", true, c != QuickestOut.class
                    || f.getName().equals("NONE") || Modifier.isPrivate(f.getModifiers()));
            }
            check.due(c + " has twenty fields at most", true, own <= 20);
            for (Method m : c.getDeclaredMethods()) {
                boolean ofFace = c == QuickestOut.class && Modifier.isPublic(m.getModifiers());
                check.due(c + " " + m.getName() + " bears a public one's name", false, !ofFace && publics.contains(m.getName()));
                check.due(c + " " + m.getName() + " is private", true, ofFace || c != QuickestOut.class
                    || Modifier.isPrivate(m.getModifiers()));
                check.due(c + " " + m.getName() + " takes seven at most", true, m.getParameterCount() <= 7);
            }
        }
    }

    /** Rules 2 to 4, 6 and 11, by the words in the text. */
    private static void text(String text) {
        String code = text.replaceAll("(?s)/\\*.*?\\*/", "").replaceAll("//[^\\n]*", "").replaceAll("\"[^\"\\n]*\"", "\"\"");
        String[] never = {"->", "::", "\\btry\\b", "\\bcatch\\b", "\\bfinally\\b", "\\bsynchronized\\b", "\\bassert\\b",
            "Exact\\b", "static \\{", "\\bpackage\\b", "\\bprotected\\b", "\\bdouble\\b", "\\bfloat\\b", "\\bequals\\b",
            "\\bhashCode\\b", "\\btoString\\b", "\\bRandom\\b", "\\bcurrentTimeMillis\\b", "\\bnanoTime\\b",
            "\\bThread\\b", "\\bvar\\b", "while \\(true\\)", "for \\(;;\\)", "\"\" \\+", "\\+ \"\""};
        for (String word : never) {
            check.due("'" + word + "' stands in the class", false, Pattern.compile(word).matcher(code).find());
        }
        Matcher imports = Pattern.compile("import ([^;]+);").matcher(code);
        while (imports.find()) {
            check.due("import of " + imports.group(1), true,
                Set.of("java.util.Arrays", "java.util.NoSuchElementException").contains(imports.group(1)));
        }
        for (int i = 0; i < text.length(); i++) {
            if (text.charAt(i) > 126) {
                check.due("sign " + (int) text.charAt(i) + " stands in the class", 0, 1);
            }
        }
        lengths(text.split("\n"));
    }

    /** By the way the file is laid out: a method starts with its opening line and ends with as deep a brace. */
    private static void lengths(String[] lines) {
        Pattern opening = Pattern.compile("^( {4}| {8})(?:(?:public|private|static|int|boolean|void) )*"
            + "\\w+\\((?:int|boolean|String|Town|\\)).*\\{$");
        int methods = 0;
        for (int i = 0; i < lines.length; i++) {
            Matcher m = opening.matcher(lines[i]);
            if (m.find()) {
                String end = m.group(1) + "}";
                int j = i;
                while (j < lines.length && !lines[j].equals(end)) {
                    j++;
                }
                methods++;
                check.due("the method in line " + (i + 1) + " has sixty lines at most", true, j - i < 60);
            }
        }
        check.due("methods are found", true, methods > 2 * FACE.length);
    }
}
