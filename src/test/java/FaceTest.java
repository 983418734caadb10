import java.lang.reflect.Constructor;
import java.lang.reflect.Field;
import java.lang.reflect.Method;
import java.lang.reflect.Modifier;
import java.util.Map;
import java.util.TreeMap;
import java.util.TreeSet;

/** The public face of the document's code block, and LANGUAGE.md's rules that a compiled class shows. */
public final class FaceTest {
    private static final String[] FACE = {
        "int field(int, int, boolean)", "int corner(int, int, int)",
        "void sew(int, int, int, int, int, boolean)", "void scale(int, int)", "int bound(int)",
        "int commands()", "int ofCommand(int, int)", "int count(int)", "float time()", "int thread(int)",
        "float covered(int)", "int touched(int)", "int write(int)", "int byteAt(int)",
        "int damage(int, int)", "int shorten(int)", "int fault()", "int reads()", "void start(int, int)",
        "int run(int)", "void breaks(int)", "int mend(int)", "int sewn(int)",
    };

    public static void main(String[] args) throws IllegalAccessException {
        constants();
        methods();
        hidesTheRest();
        classesInside();
        Check.end();
    }

    private static void constants() throws IllegalAccessException {
        Map<String, Integer> due = new TreeMap<>(Map.of("NONE", -1, "STITCH", 0, "JUMP", 1, "TRIM", 2,
                "STOP", 3, "END", 4, "SHORT", 0, "LONG", 1));
        Map<String, Integer> got = new TreeMap<>();
        for (Field f : Stitchpath.class.getDeclaredFields()) {
            if (!Modifier.isPrivate(f.getModifiers())) {
                Check.due(f.getName() + " is public static final", f.getModifiers(),
                        Modifier.PUBLIC | Modifier.STATIC | Modifier.FINAL);
                got.put(f.getName(), f.getInt(null));
            }
        }
        Check.dueText("constants", got.toString(), due.toString());
    }

    private static void methods() {
        TreeSet<String> got = new TreeSet<>();
        TreeSet<String> names = new TreeSet<>();
        for (Method m : Stitchpath.class.getDeclaredMethods()) {
            if (!Modifier.isPrivate(m.getModifiers())) {
                Check.due(m.getName() + " is public", m.getModifiers(), Modifier.PUBLIC);
                StringBuilder text = new StringBuilder(m.getReturnType() + " " + m.getName() + "(");
                for (Class<?> type : m.getParameterTypes()) {
                    text.append(text.charAt(text.length() - 1) == '(' ? "" : ", ").append(type);
                }
                got.add(text.append(")").toString());
                names.add(m.getName());
            }
        }
        Check.dueText("methods", got.toString(), new TreeSet<>(java.util.List.of(FACE)).toString());
        for (Method m : Stitchpath.class.getDeclaredMethods()) {
            if (Modifier.isPrivate(m.getModifiers()) && names.contains(m.getName())) {
                Check.tell("a private method bears the name " + m.getName());
            }
        }
    }

    private static void hidesTheRest() {
        Check.due("the class is public and final", Stitchpath.class.getModifiers(),
                Modifier.PUBLIC | Modifier.FINAL);
        Constructor<?>[] made = Stitchpath.class.getDeclaredConstructors();
        Check.due("constructors", made.length, 1);
        Check.due("the constructor is public", made[0].getModifiers(), Modifier.PUBLIC);
        Check.due("it takes nothing", made[0].getParameterCount(), 0);
        Check.dueText("no package", Stitchpath.class.getPackageName(), "");
    }

    private static void classesInside() {
        Class<?>[] inside = Stitchpath.class.getDeclaredClasses();
        if (inside.length > 12) {
            Check.tell("more than twelve classes inside");
        }
        for (Class<?> c : inside) {
            if (!Modifier.isStatic(c.getModifiers())) {
                Check.tell(c.getName() + " is not static");
            }
            int changing = 0;
            for (Field f : c.getDeclaredFields()) {
                changing += Modifier.isStatic(f.getModifiers()) ? 0 : 1;
            }
            if (changing > 20) {
                Check.tell(c.getName() + " has more than twenty fields");
            }
        }
    }
}
