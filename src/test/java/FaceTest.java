import java.io.IOException;
import java.lang.reflect.Field;
import java.lang.reflect.Method;
import java.lang.reflect.Modifier;
import java.nio.file.Files;
import java.nio.file.Path;
import java.util.ArrayDeque;
import java.util.Deque;
import java.util.HashSet;
import java.util.Set;
import java.util.TreeSet;
import java.util.regex.Matcher;
import java.util.regex.Pattern;

/** The public face is the document's and no more, and the source keeps to what LANGUAGE.md lets a test see. */
public final class FaceTest {
    private static final Set<String> FACE = Set.of(
            "boolean station(int,int,int)", "int arrive(int)", "int visit(int,int,int)", "int drop()",
            "int leaves(int,int)", "int joins(int,int)", "int begins(int,int)", "int at(int,int)",
            "int waits(int,int)", "int area(int,int)", "int stays(int)", "int busy(int)", "int longest(int)",
            "int last()", "int order(int)", "boolean agree(int,int)");
    private static final String FORBIDDEN = "import|package|throws?|try|catch|synchronized|assert|instanceof|null"
            + "|float|double|String|Math|Integer|System|Arrays|Object|record|enum|interface|protected|->|::";
    private static final int LONGEST_METHOD = 60;
    private static final int MOST_FIELDS = 40;

    private static int wrong = 0;

    public static void main(String[] args) throws IOException {
        checkMembers();
        checkFields();
        checkSource();
        System.out.println(wrong == 0 ? "the face and the language are as due" : wrong + " faults");
        if (wrong != 0) {
            System.exit(1);
        }
    }

    private static void must(boolean holds, String what) {
        if (!holds) {
            wrong++;
            System.out.println("not so: " + what);
        }
    }

    private static String form(Method m) {
        StringBuilder parameters = new StringBuilder();
        for (Class<?> p : m.getParameterTypes()) {
            parameters.append(parameters.length() == 0 ? "" : ",").append(p.getName());
        }
        return m.getReturnType().getName() + " " + m.getName() + "(" + parameters + ")";
    }

    private static void checkMembers() {
        Class<?> face = QueueNetwork.class;
        must(Modifier.isPublic(face.getModifiers()) && Modifier.isFinal(face.getModifiers()), "public final class");
        must(face.getDeclaredClasses().length == 0, "no nested class");
        must(face.getDeclaredConstructors().length == 1 && face.getConstructors().length == 1, "one constructor");
        Set<String> open = new TreeSet<>();
        Set<String> openNames = new HashSet<>();
        for (Method m : face.getDeclaredMethods()) {
            if (Modifier.isPublic(m.getModifiers())) {
                open.add(form(m));
                openNames.add(m.getName());
                must(!Modifier.isStatic(m.getModifiers()), form(m) + " is not static");
            }
        }
        must(open.equals(FACE), "the public methods are those of the document, not " + open);
        for (Method m : face.getDeclaredMethods()) {
            if (!Modifier.isPublic(m.getModifiers())) {
                must(Modifier.isPrivate(m.getModifiers()), form(m) + " is private");
                must(!openNames.contains(m.getName()), form(m) + " has a name of its own");
                must(m.getParameterCount() <= 7, form(m) + " has at most seven parameters");
            }
        }
    }

    private static void checkFields() {
        Set<String> open = new TreeSet<>();
        int fields = 0;
        for (Field f : QueueNetwork.class.getDeclaredFields()) {
            int m = f.getModifiers();
            if (Modifier.isPublic(m)) {
                open.add(f.getName());
            } else {
                must(Modifier.isPrivate(m), f.getName() + " is private");
            }
            if (Modifier.isStatic(m)) {
                must(Modifier.isFinal(m) && f.getType() == int.class, f.getName() + " is a constant");
            } else {
                fields++;
            }
        }
        must(open.equals(Set.of("BAD", "FULL")), "the public constants are BAD and FULL, not " + open);
        must(fields <= MOST_FIELDS, "at most " + MOST_FIELDS + " fields, not " + fields);
    }

    private static void checkSource() throws IOException {
        String source = Files.readString(Path.of("src/main/java/QueueNetwork.java"));
        String code = source.replaceAll("(?s)/\\*.*?\\*/", "").replaceAll("//[^\n]*", "");
        Matcher word = Pattern.compile("(?<!\\w)(" + FORBIDDEN + ")(?!\\w)").matcher(code);
        while (word.find()) {
            must(false, "the source is without " + word.group());
        }
        checkArguments(code);
        checkLengths(source);
        checkArrays(code);
    }

    /** Every array is made where its field stands, with a constant as its length. */
    private static void checkArrays(String code) {
        for (String line : code.split("\n")) {
            boolean makes = line.matches(".*\\bnew\\b.*");
            must(!makes || line.matches("    private final int\\[] \\w+ = new int\\[[A-Z_]+];"),
                    "an array is made with its field: " + line.trim());
        }
    }

    /** A bracket right behind a name opens the arguments of a call; none may open inside another one. */
    private static void checkArguments(String code) {
        Deque<Boolean> open = new ArrayDeque<>();
        for (int i = 1; i < code.length(); i++) {
            if (code.charAt(i) == '(') {
                boolean isCall = Character.isJavaIdentifierPart(code.charAt(i - 1));
                must(!isCall || !open.contains(true), "no call in arguments: " + code.substring(i - 20, i + 1));
                open.push(isCall);
            } else if (code.charAt(i) == ')') {
                open.pop();
            }
        }
    }

    private static void checkLengths(String source) {
        int start = 0;
        String[] lines = source.split("\n");
        for (int i = 0; i < lines.length; i++) {
            if (lines[i].matches("    (public|private) .*\\{")) {
                start = i;
            } else if (lines[i].equals("    }")) {
                must(i - start < LONGEST_METHOD, "a short method: " + lines[start].trim());
            }
        }
    }
}
