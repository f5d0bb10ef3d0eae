import java.lang.reflect.Constructor;
import java.lang.reflect.Field;
import java.lang.reflect.Method;
import java.lang.reflect.Modifier;
import java.nio.file.Files;
import java.nio.file.Path;
import java.util.ArrayList;
import java.util.List;
import java.util.Set;
import java.util.TreeSet;
import java.util.regex.Matcher;
import java.util.regex.Pattern;

/** The public face of the document, and what of LANGUAGE.md a look at the class and its text can tell. */
public final class FaceTest {
    private static final Check check = new Check();
    private static final String[] FACE = {
        "int feed int int int int int", "boolean end int", "int tell", "int fault", "int place int int int int",
        "int road int int int int int", "boolean turn int int", "boolean set int int int", "int drop",
        "int move int int boolean int", "int back int", "int count int", "int of int int", "int along int int",
        "int safe int", "int quickest", "boolean open int int int", "int openings int int", "int shut int",
        "int wider int boolean int", "int turned int int", "int bestTurn int", "int turns int int", "int roomy int int",
        "int best int", "int latest int", "int worst", "int lacks int int boolean", "int moved int int", "int wrong",
        "int planned int", "int there int int int"};

    public static void main(String[] args) throws Exception {
        face();
        members();
        text(Files.readString(Path.of("src/main/java/QuickestOut.java")));
        check.end("FaceTest");
    }

    private static void face() throws Exception {
        Set<String> due = new TreeSet<>(List.of(FACE));
        Set<String> are = new TreeSet<>();
        for (Method m : QuickestOut.class.getDeclaredMethods()) {
            if (Modifier.isPublic(m.getModifiers())) {
                StringBuilder row = new StringBuilder(m.getReturnType() + " " + m.getName());
                for (Class<?> p : m.getParameterTypes()) {
                    row.append(' ').append(p);
                }
                are.add(row.toString());
                check.due(m.getName() + " is static", false, Modifier.isStatic(m.getModifiers()));
            }
        }
        check.due("public methods " + are + ", due are " + due, true, are.equals(due));
        Constructor<?>[] constructors = QuickestOut.class.getDeclaredConstructors();
        check.due("constructors", 1, constructors.length);
        check.due("parameters of it", 0, constructors[0].getParameterCount());
        check.due("it is public", true, Modifier.isPublic(constructors[0].getModifiers()));
        check.due("the class is public and final", Modifier.PUBLIC | Modifier.FINAL, QuickestOut.class.getModifiers());
        Field none = QuickestOut.class.getField("NONE");
        check.due("NONE is static and final", true, Modifier.isStatic(none.getModifiers()) && Modifier.isFinal(none.getModifiers()));
        Class<?>[] thrown = QuickestOut.class.getMethod("along", int.class, int.class).getExceptionTypes();
        check.due("along throws", true, thrown.length == 1 && thrown[0] == java.util.NoSuchElementException.class);
    }

    /** Rules 1, 5 and 11. */
    private static void members() {
        Set<String> publics = new TreeSet<>();
        for (String row : FACE) {
            publics.add(row.split(" ")[1]);
        }
        List<Class<?>> all = new ArrayList<>(List.of(QuickestOut.class.getDeclaredClasses()));
        for (Class<?> inside : all) {
            int flags = inside.getModifiers();
            check.due(inside + " is static, neither public nor protected", true, Modifier.isStatic(flags)
                && !Modifier.isPublic(flags) && !Modifier.isProtected(flags));
        }
        all.add(QuickestOut.class);
        check.due("twelve classes at most", true, all.size() <= 12);
        for (Class<?> c : all) {
            int own = 0;
            for (Field f : c.getDeclaredFields()) {
                boolean constant = Modifier.isStatic(f.getModifiers());
                check.due(c + " " + f.getName() + " is final if static", true, !constant || Modifier.isFinal(f.getModifiers()));
                own += constant ? 0 : 1;
                check.due(c + " " + f.getName() + " is private, but for NONE", true, c != QuickestOut.class
                    || f.getName().equals("NONE") || Modifier.isPrivate(f.getModifiers()));
            }
            check.due(c + " has twenty fields at most", true, own <= 20);
            for (Method m : c.getDeclaredMethods()) {
                boolean ofFace = c == QuickestOut.class && Modifier.isPublic(m.getModifiers());
                check.due(c + " " + m.getName() + " bears a public one's name", false, !ofFace && publics.contains(m.getName()));
                check.due(c + " " + m.getName() + " is private", true, ofFace || c != QuickestOut.class
                    || Modifier.isPrivate(m.getModifiers()));
                check.due(c + " " + m.getName() + " takes seven at most", true, m.getParameterCount() <= 7);
            }
        }
    }

    /** Rules 2 to 4, 6, 9 and 11, by the words in the text. */
    private static void text(String text) {
        String code = text.replaceAll("(?s)/\\*.*?\\*/", "").replaceAll("//[^\\n]*", "").replaceAll("\"[^\"\\n]*\"", "\"\"");
        String[] never = {"->", "::", "\\btry\\b", "\\bcatch\\b", "\\bfinally\\b", "\\bsynchronized\\b", "\\bassert\\b",
            "Exact\\b", "static \\{", "\\bpackage\\b", "\\bprotected\\b", "\\bdouble\\b", "\\bfloat\\b", "\\bequals\\b",
            "\\bhashCode\\b", "\\btoString\\b", "\\bRandom\\b", "\\bcurrentTimeMillis\\b", "\\bnanoTime\\b",
            "\\bThread\\b", "\\bvar\\b", "while \\(true\\)", "for \\(;;\\)", "\"\" \\+", "\\+ \"\""};
        for (String word : never) {
            check.due("'" + word + "' stands in the class", false, Pattern.compile(word).matcher(code).find());
        }
        Matcher imports = Pattern.compile("import ([^;]+);").matcher(code);
        while (imports.find()) {
            check.due("import of " + imports.group(1), true,
                Set.of("java.util.Arrays", "java.util.NoSuchElementException").contains(imports.group(1)));
        }
        for (int i = 0; i < text.length(); i++) {
            if (text.charAt(i) > 126) {
                check.due("sign " + (int) text.charAt(i) + " stands in the class", 0, 1);
            }
        }
        List<Found> methods = methods(text.split("\n"));
        check.due("methods are found", true, methods.size() > 2 * FACE.length);
        for (Found m : methods) {
            check.due(m.name + " has sixty lines at most", true, m.lines.size() <= 60);
            loops(m);
            check.due(m.name + " goes eight deep at most", true, depth(m.name, methods, 1) <= 8);
        }
    }

    /** A method as it stands in the text. */
    private static final class Found {
        final String name;
        final List<String> lines = new ArrayList<>();

        Found(String name) {
            this.name = name;
        }
    }

    /** By the way the file is laid out: a method starts with its opening line and ends with as deep a brace. */
    private static List<Found> methods(String[] lines) {
        Pattern opening = Pattern.compile("^( {4}| {8})(?:(?:public|private|static|int|boolean|void) )*"
            + "(\\w+)\\((?:int|boolean|String|Town|\\)).*\\{$");
        List<Found> methods = new ArrayList<>();
        for (int i = 0; i < lines.length; i++) {
            Matcher m = opening.matcher(lines[i]);
            if (m.find()) {
                Found found = new Found(m.group(2));
                int j = i;
                while (j < lines.length && !lines[j].equals(m.group(1) + "}")) {
                    found.lines.add(lines[j].replaceAll("//.*", ""));
                    j++;
                }
                methods.add(found);
            }
        }
        return methods;
    }

    /** Rule 9: each loop has a counter against a bound, and nothing in it changes the bound. */
    private static void loops(Found method) {
        for (int i = 0; i < method.lines.size(); i++) {
            String head = method.lines.get(i);
            Matcher loop = Pattern.compile("^( *)(for \\(int (\\w+) = [^;]*; (.*); [^;]*|while \\((.*))\\) \\{$").matcher(head);
            boolean isLoop = loop.matches();
            check.due(method.name + ": a loop that is not known: " + head, isLoop, head.matches(" *(for|while|do)\\b.*"));
            if (isLoop) {
                StringBuilder body = new StringBuilder();
                for (int j = i + 1; !method.lines.get(j).equals(loop.group(1) + "}"); j++) {
                    body.append(method.lines.get(j)).append('\n');
                }
                String until = loop.group(3) == null ? loop.group(5) : loop.group(4);
                check.due(method.name + ": the end is seen of " + head.trim(), true, hasBound(loop.group(3), until, body.toString()));
            }
        }
    }

    private static boolean hasBound(String counter, String until, String body) {
        for (String part : until.split(" && ")) {
            Matcher m = Pattern.compile("(\\w+)(?: \\+ \\w+)? (<|<=|>=) ([^()]+|word\\.length\\(\\))").matcher(part);
            if (m.matches() && !changes(m.group(3), body)
                    && (counter == null ? body.contains(m.group(1) + "++;") : m.group(1).equals(counter) && !changes(counter, body))) {
                return true;
            }
        }
        return false;
    }

    private static boolean changes(String bound, String body) {
        for (String name : bound.split("\\W+")) {
            if (name.matches("[a-z]\\w*") && Pattern.compile("\\b" + name + "( [-+*/]?= |\\+\\+|--)").matcher(body).find()) {
                return true;
            }
        }
        return false;
    }

    /** Rule 11: how many calls stand open at most, that of the method and those of the library counted. */
    private static int depth(String name, List<Found> methods, int above) {
        int most = 1;
        for (Found m : methods) {
            if (m.name.equals(name) && above <= 20) {
                Matcher calls = Pattern.compile("(new )?\\b([a-zA-Z]\\w*)\\(").matcher(
                    String.join("\n", m.lines.subList(1, m.lines.size())).replaceAll("\"[^\"\\n]*\"", "\"\""));
                while (calls.find()) {
                    most = Math.max(most, 1 + depth(calls.group(2), methods, above + 1));
                }
            }
        }
        return most;
    }
}
