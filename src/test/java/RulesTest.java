import java.lang.reflect.Constructor;
import java.lang.reflect.Field;
import java.lang.reflect.Member;
import java.lang.reflect.Method;
import java.lang.reflect.Modifier;
import java.nio.file.Files;
import java.nio.file.Path;
import java.util.ArrayList;
import java.util.List;
import java.util.TreeSet;

/** The face that the document tells, and rules of LANGUAGE.md that can be seen from the class and its text. */
public final class RulesTest {
    private static final String[] FACE = {
        "int put(int,int)", "int node(int,int)", "int sum(int,int)", "int knows(int,int)", "int sends(int)",
        "int linked(int,int)", "int count(int)", "int go(int)", "int gain(int)", "int foreseen()", "int views(int)",
        "int view(int,int)", "long joined(int,int)", "int tell(int,int)", "int type(int)", "int read()",
        "int drift(int)", "int undo()", "int seed(int)", "int image()", "int restore()", "int could(int,int,int)",
        "int film(int,int,int,int)", "int sheet(int,int,int)", "int drop(int)", "int item(int,int,int,long)",
        "int copy(int,int,int,int,int)"};
    private static final String[] CONSTANTS = {"BAD -1", "NOT -2", "FULL -3", "NONE -4", "NULL -11", "CAST -12",
        "INDEX -13", "SIZE -14"};

    public static void main(String[] args) throws Exception {
        faceIsTheDocuments();
        constantsAreTheDocuments();
        classesInside();
        words(Files.readString(Path.of(args.length > 0 ? args[0] : "src/main/java/TokenRounds.java")));
        Check.end("RulesTest");
    }

    private static void faceIsTheDocuments() {
        TreeSet<String> due = new TreeSet<>(List.of(FACE));
        TreeSet<String> there = new TreeSet<>();
        TreeSet<String> names = new TreeSet<>();
        for (Method m : TokenRounds.class.getDeclaredMethods()) {
            if (Modifier.isPublic(m.getModifiers())) {
                there.add(told(m));
                names.add(m.getName());
            }
        }
        Check.row("the public methods", there.toString(), due.toString());
        for (Method m : TokenRounds.class.getDeclaredMethods()) {
            if (!Modifier.isPublic(m.getModifiers())) {
                Check.holds(m.getName() + " is private", Modifier.isPrivate(m.getModifiers()) || m.isSynthetic());
                Check.holds(m.getName() + " has a name of its own", !names.contains(m.getName()));
            }
            Check.holds(m.getName() + " throws nothing", m.getExceptionTypes().length == 0);
        }
        for (Class<?> inside : TokenRounds.class.getDeclaredClasses()) {
            for (Method m : inside.getDeclaredMethods()) {
                Check.holds(inside.getSimpleName() + "." + m.getName() + " has a name of its own",
                    !names.contains(m.getName()));
            }
        }
        Check.holds("the class is public and final",
            (TokenRounds.class.getModifiers() & (Modifier.PUBLIC | Modifier.FINAL)) == (Modifier.PUBLIC | Modifier.FINAL));
        Constructor<?>[] made = TokenRounds.class.getDeclaredConstructors();
        Check.holds("one public constructor", made.length == 1 && Modifier.isPublic(made[0].getModifiers())
            && made[0].getParameterCount() == 0);
    }

    private static String told(Method m) {
        List<String> types = new ArrayList<>();
        for (Class<?> type : m.getParameterTypes()) {
            types.add(type.getSimpleName());
        }
        return m.getReturnType().getSimpleName() + " " + m.getName() + "(" + String.join(",", types) + ")";
    }

    private static void constantsAreTheDocuments() throws IllegalAccessException {
        TreeSet<String> there = new TreeSet<>();
        for (Field f : TokenRounds.class.getDeclaredFields()) {
            if (Modifier.isPublic(f.getModifiers())) {
                Check.holds(f.getName() + " is a constant of int", f.getType() == int.class && isConstant(f));
                there.add(f.getName() + " " + f.getInt(null));
            } else {
                Check.holds(f.getName() + " is private", Modifier.isPrivate(f.getModifiers()));
                Check.holds(f.getName() + " is final, if it's static", !Modifier.isStatic(f.getModifiers()) || isConstant(f));
            }
        }
        Check.row("the constants", there.toString(), new TreeSet<>(List.of(CONSTANTS)).toString());
    }

    private static boolean isConstant(Member m) {
        return Modifier.isStatic(m.getModifiers()) && Modifier.isFinal(m.getModifiers());
    }

    private static void classesInside() {
        Class<?>[] inside = TokenRounds.class.getDeclaredClasses();
        Check.holds("some twelve classes at most", inside.length <= 11);
        for (Class<?> c : inside) {
            Check.holds(c.getSimpleName() + " is static", Modifier.isStatic(c.getModifiers()));
            Check.holds(c.getSimpleName() + " isn't public", !Modifier.isPublic(c.getModifiers()));
            int fields = 0;
            for (Field f : c.getDeclaredFields()) {
                fields += Modifier.isStatic(f.getModifiers()) ? 0 : 1;
                Check.holds(c.getSimpleName() + "." + f.getName() + " is final, if it's static",
                    !Modifier.isStatic(f.getModifiers()) || isConstant(f));
            }
            Check.holds(c.getSimpleName() + " has some twenty fields at most", fields <= 20);
            for (Method m : c.getDeclaredMethods()) {
                Check.holds(m.getName() + " takes seven parameters at most", m.getParameterCount() <= 7);
            }
        }
    }

    private static void words(String text) {
        String code = text.replaceAll("(?s)/\\*.*?\\*/", " ").replaceAll("//[^\n]*", " ");
        String[] none = {"throw", "throws", "try", "catch", "finally", "synchronized", "assert", "import", "package",
            "equals", "hashCode", "toString", "double", "float", "Thread", "Random", "Math\\.random", "currentTimeMillis",
            "nanoTime", "Object", "\\w*Exact"};
        for (String word : none) {
            Check.holds("no " + word, !code.matches("(?s).*\\b" + word + "\\b.*"));
        }
        Check.holds("no lambda, no method reference", !code.contains("->") && !code.contains("::"));
        Check.holds("signs 1 to 127 alone", text.chars().allMatch(sign -> sign > 0 && sign < 128));
        methodsAreShort(code);
        for (String line : code.split("\n")) {
            boolean made = line.contains("new ");
            boolean kept = line.contains(" = new ") && (line.contains("private final") || line.matches("\\s+\\w+\\[\\w\\] = new \\w+\\(\\);"));
            Check.holds("made in constructors alone: " + line.trim(), !made || kept);
        }
    }

    /** A method begins with a line that ends with { and ends with a } as far in. */
    private static void methodsAreShort(String code) {
        String[] lines = code.split("\n");
        int methods = 0;
        for (int i = 0; i < lines.length; i++) {
            if (lines[i].matches("( {4}| {8})\\w[\\w\\[\\] ]*\\([\\w\\[\\], ]*\\) \\{")
                && !lines[i].matches(" *(if|for|while|switch)\\b.*")) {
                methods++;
                String end = lines[i].replaceAll("\\w.*", "}");
                int last = i;
                while (last < lines.length && !lines[last].equals(end)) {
                    last++;
                }
                Check.holds("some sixty lines at most: " + lines[i].trim(), last - i < 60);
            }
        }
        Check.holds("methods were found", methods > 100);
    }
}
