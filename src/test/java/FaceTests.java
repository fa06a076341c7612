import java.lang.reflect.Constructor;
import java.lang.reflect.Field;
import java.lang.reflect.Method;
import java.lang.reflect.Modifier;
import java.nio.file.Files;
import java.nio.file.Path;
import java.util.ArrayList;
import java.util.List;
import java.util.Set;
import java.util.TreeSet;
import java.util.regex.Matcher;
import java.util.regex.Pattern;

/** The public face, and those rules of LANGUAGE.md that a look at the class or at its text can tell. */
public final class FaceTests {
    private static final String[] FACE = {
        "int row(int,int)", "int lay(int,int,int)", "int at(int,int)", "int tear(int)",
        "int copy(int,int,int,int,int)", "int mean(int)", "int text(int,int)", "int put(int,int,int)",
        "int fault(int)", "int night(int)", "int shape(int,int)", "int change(int,int)", "int mark(int,int)",
        "int fighter(int,int)", "int teach(int,int,int)", "int fire(int,int)", "int beat(int,int,int)",
        "int can(int)", "int turn()", "int go(int)", "int undo(int)", "int told(int)", "int keep(int)",
        "int on(int)", "int wins()", "int ends()", "int line(int)", "int least(int)", "int learn(int)",
        "int needs(int)", "int lines(int)", "int judge(int)", "int shown(int,int)", "int must(int,int)",
        "int odds()", "int hopes()", "int lots(int,int)", "int rings()", "int cover()", "int alike()",
        "int best()", "int asked()", "long upper()", "long lower()", "int count(int)", "int finding()",
        "int findings(int)", "long digest()"};
    private static final Set<String> CONSTANTS = Set.of("BAD", "FULL", "FINDING", "STATE", "SPENT", "NONE");
    private static final String[] FORBIDDEN = {"throw", "try", "catch", "synchronized", "assert", "protected",
        "package", "->", "::", "Exact(", "System.out", "hashCode", "Math.random", "null", "while"};

    private static int wrong = 0;

    public static void main(String[] args) throws Exception {
        methodsAreTheFace();
        fieldsAreTheFace();
        classesInside();
        String source = Files.readString(Path.of(args.length > 0 ? args[0] : "src/main/java/ShapeDuel.java"));
        wordsAreAllowed(source);
        methodsStayShort(source);
        System.out.println("FaceTests: " + wrong + " wrong");
        if (wrong > 0) {
            System.exit(1);
        }
    }

    private static void hold(boolean so, String what) {
        if (!so) {
            wrong++;
            System.out.println("not so: " + what);
        }
    }

    private static String signature(Method m) {
        List<String> types = new ArrayList<>();
        for (Class<?> type : m.getParameterTypes()) {
            types.add(type.getName());
        }
        return m.getReturnType().getName() + " " + m.getName() + "(" + String.join(",", types) + ")";
    }

    private static void methodsAreTheFace() {
        Set<String> face = new TreeSet<>();
        Set<String> publicNames = new TreeSet<>();
        for (Method m : ShapeDuel.class.getDeclaredMethods()) {
            if (Modifier.isPublic(m.getModifiers())) {
                face.add(signature(m));
                publicNames.add(m.getName());
                hold(!Modifier.isStatic(m.getModifiers()), m.getName() + " is no static one");
            } else {
                hold(Modifier.isPrivate(m.getModifiers()) || m.isSynthetic(), m.getName() + " is private");
            }
        }
        hold(face.equals(new TreeSet<>(List.of(FACE))), "the public methods are those of the document");
        List<Class<?>> all = new ArrayList<>(List.of(ShapeDuel.class.getDeclaredClasses()));
        all.add(ShapeDuel.class);
        for (Class<?> c : all) {
            for (Method m : c.getDeclaredMethods()) {
                hold(Modifier.isPublic(m.getModifiers()) || !publicNames.contains(m.getName()),
                    "no private method bears the name " + m.getName());
            }
        }
        Constructor<?>[] made = ShapeDuel.class.getDeclaredConstructors();
        hold(made.length == 1 && made[0].getParameterCount() == 0 && Modifier.isPublic(made[0].getModifiers()),
            "one public constructor");
    }

    private static void fieldsAreTheFace() throws Exception {
        Set<String> constants = new TreeSet<>();
        List<Class<?>> all = new ArrayList<>(List.of(ShapeDuel.class.getDeclaredClasses()));
        all.add(ShapeDuel.class);
        for (Class<?> c : all) {
            int own = 0;
            for (Field f : c.getDeclaredFields()) {
                int how = f.getModifiers();
                if (Modifier.isPublic(how)) {
                    constants.add(f.getName());
                } else {
                    hold(Modifier.isPrivate(how) || f.isSynthetic(), f.getName() + " is private");
                }
                hold(!Modifier.isStatic(how) || Modifier.isFinal(how), f.getName() + " is final, being static");
                own += Modifier.isStatic(how) ? 0 : 1;
            }
            hold(own <= 20, c.getName() + " has at most 20 fields");
        }
        hold(constants.equals(new TreeSet<>(CONSTANTS)), "the public constants are those of the document");
    }

    private static void classesInside() {
        hold(Modifier.isFinal(ShapeDuel.class.getModifiers()), "the class is final");
        Class<?>[] inside = ShapeDuel.class.getDeclaredClasses();
        hold(inside.length <= 11, "at most twelve classes");
        for (Class<?> c : inside) {
            hold(Modifier.isStatic(c.getModifiers()), c.getName() + " is static");
            hold(!Modifier.isPublic(c.getModifiers()), c.getName() + " is not public");
        }
    }

    private static void wordsAreAllowed(String source) {
        for (String word : FORBIDDEN) {
            String form = Character.isLetter(word.charAt(0)) ? "\\b" + Pattern.quote(word) : Pattern.quote(word);
            hold(!Pattern.compile(form).matcher(source).find(), "no '" + word + "' in the file");
        }
        Matcher imports = Pattern.compile("import (.*);").matcher(source);
        while (imports.find()) {
            hold(imports.group(1).equals("java.util.Arrays"), "no import of " + imports.group(1));
        }
        hold(source.chars().allMatch(c -> c == '\n' || c >= 32 && c < 127), "plain signs alone");
    }

    private static void methodsStayShort(String source) {
        String[] lines = source.split("\n");
        int begun = 0;
        int indent = 0;
        for (int i = 0; i < lines.length; i++) {
            int here = lines[i].length() - lines[i].stripLeading().length();
            if (lines[i].matches("( {4}| {8})(public|private).*\\) \\{")) {
                begun = i;
                indent = here;
                hold(lines[i].split(",").length <= 7, "at most seven parameters at line " + (i + 1));
            }
            if (lines[i].strip().equals("}") && here == indent) {
                hold(i - begun < 60, "a method ends at line " + (i + 1) + " too late");
                indent = -1;
            }
        }
    }
}
