import java.io.IOException;
import java.lang.reflect.Constructor;
import java.lang.reflect.Field;
import java.lang.reflect.Method;
import java.lang.reflect.Modifier;
import java.nio.file.Files;
import java.nio.file.Path;
import java.util.Set;
import java.util.TreeSet;
import java.util.regex.Matcher;
import java.util.regex.Pattern;

/** The public face is the document's, and the source keeps to the rules of LANGUAGE.md that a short look can tell. */
public final class FaceTest {
    private static final Set<String> FACE = Set.of(
        "public boolean reward(int,int,int)",
        "public boolean shares(int,int,int)",
        "public int valueTop(int,int)",
        "public int valueBottom(int,int)",
        "public int bestTop(int)",
        "public int bestBottom(int)",
        "public int policy()",
        "public int policies()",
        "public boolean good(int,int)",
        "public int prune()",
        "public int compare(int,int,int)");
    private static final String[] BANNED = {
        "float", "double", "String", "Math", "Integer", "Long", "System", "Arrays", "Object", "import", "package",
        "null", "throw", "throws", "try", "catch", "finally", "synchronized", "assert", "instanceof", "enum",
        "interface", "record", "var", "equals", "hashCode", "toString", "getClass", "clone", "protected"};

    private static int wrong = 0;

    public static void main(String[] args) throws IOException {
        face();
        fields();
        if (args.length > 0) {
            words(Files.readString(Path.of(args[0])));
        }
        System.out.println(wrong == 0 ? "the face is as due" : wrong + " faults in the face");
        if (wrong != 0) {
            System.exit(1);
        }
    }

    private static void fault(boolean is, String what) {
        if (is) {
            wrong++;
            System.out.println(what);
        }
    }

    private static void face() {
        Class<?> c = PolicySolver.class;
        fault(c.getModifiers() != (Modifier.PUBLIC | Modifier.FINAL), "the class is not public and final");
        fault(c.getDeclaredClasses().length != 0, "there is a nested class");
        Constructor<?>[] made = c.getDeclaredConstructors();
        fault(made.length != 1 || !Modifier.isPublic(made[0].getModifiers()) || made[0].getParameterCount() != 0,
            "the constructor is not the document's");
        Set<String> open = new TreeSet<>();
        Set<String> openNames = new TreeSet<>();
        for (Method m : c.getDeclaredMethods()) {
            if (!Modifier.isPrivate(m.getModifiers())) {
                open.add(m.toString().replace("PolicySolver.", ""));
                openNames.add(m.getName());
            }
            fault(m.getReturnType().isArray(), m.getName() + " answers an array");
            fault(m.getParameterCount() > 7, m.getName() + " has more than seven parameters");
        }
        fault(!open.equals(FACE), "the open methods are " + open);
        for (Method m : c.getDeclaredMethods()) {
            fault(Modifier.isPrivate(m.getModifiers()) && openNames.contains(m.getName()),
                "private " + m.getName() + " bears the name of a public method");
        }
    }

    private static void fields() {
        int held = 0;
        for (Field f : PolicySolver.class.getDeclaredFields()) {
            boolean isStatic = Modifier.isStatic(f.getModifiers());
            boolean isNumber = f.getType() == int.class || f.getType() == long.class;
            fault(!Modifier.isPrivate(f.getModifiers()) && !f.getName().equals("BAD"), f.getName() + " is open");
            fault(isStatic && !(isNumber && Modifier.isFinal(f.getModifiers())), f.getName() + " is not a constant number");
            Class<?> type = f.getType().isArray() ? f.getType().getComponentType() : f.getType();
            fault(!type.isPrimitive() || type == float.class || type == double.class, f.getName() + " has a type outside the rules");
            held += isStatic ? 0 : 1;
        }
        fault(held > 40, "there are " + held + " fields");
        fault(PolicySolver.BAD != -1000000, "BAD is " + PolicySolver.BAD);
    }

    private static void words(String source) {
        String code = source.replaceAll("(?s)/\\*.*?\\*/", " ").replaceAll("//[^\n]*", " ");
        for (String word : BANNED) {
            Matcher found = Pattern.compile("\\b" + word + "\\b").matcher(code);
            fault(found.find(), "the source uses " + word);
        }
        fault(code.contains("->") || code.contains("::"), "the source uses a lambda or a method reference");
        fault(code.contains("\""), "the source uses a text");
    }
}
