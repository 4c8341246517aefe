import java.lang.reflect.Constructor;
import java.lang.reflect.Field;
import java.lang.reflect.Method;
import java.lang.reflect.Modifier;
import java.util.Arrays;
import java.util.Set;
import java.util.TreeSet;

/** The public face is the document's, and nothing else can be seen. */
public final class FaceTest {
    private static final String THROWS_BOTH =
            " throws java.lang.IllegalArgumentException,java.lang.IllegalStateException";

    private static final String[] METHODS = {
        "public boolean JobTerminal.program(int,int,int,int)",
        "public int JobTerminal.flags(int)",
        "public boolean JobTerminal.key(char)",
        "public int JobTerminal.launch(int,int,boolean)" + THROWS_BOTH,
        "public int JobTerminal.front(int)" + THROWS_BOTH,
        "public int JobTerminal.back(int)" + THROWS_BOTH,
        "public int JobTerminal.send(int,int) throws java.lang.IllegalArgumentException",
        "public int JobTerminal.report()",
        "public int JobTerminal.step(int)",
        "public int JobTerminal.tick()",
        "public boolean JobTerminal.hang()",
        "public int JobTerminal.foreground()",
        "public int JobTerminal.job(int)",
        "public int JobTerminal.process(int,int)",
        "public int JobTerminal.shown()",
        "public int JobTerminal.screen(int)",
        "public int JobTerminal.held(int)",
    };

    public static void main(String[] args) {
        Class<?> face = JobTerminal.class;
        Check.same("class", Modifier.toString(face.getModifiers()), "public final");
        Set<String> seen = new TreeSet<>();
        Set<String> names = new TreeSet<>();
        for (Method method : face.getDeclaredMethods()) {
            if (!Modifier.isPrivate(method.getModifiers())) {
                seen.add(method.toString());
                names.add(method.getName());
            }
        }
        Check.same("methods", seen, new TreeSet<>(Arrays.asList(METHODS)));
        for (Method method : face.getDeclaredMethods()) {
            if (Modifier.isPrivate(method.getModifiers())) {
                Check.same("private " + method.getName(), names.contains(method.getName()), false);
            }
        }
        for (Field field : face.getDeclaredFields()) {
            String due = field.getName().equals("NONE") ? "public static final" : "private";
            String got = Modifier.toString(field.getModifiers());
            Check.same(field.getName() + " is " + got, got.startsWith(due), true);
        }
        Constructor<?>[] constructors = face.getDeclaredConstructors();
        Check.same("constructors", constructors.length, 1);
        Check.same("constructor", constructors[0].toString(), "public JobTerminal()");
        for (Class<?> inside : face.getDeclaredClasses()) {
            Check.same("class " + inside.getName(), Modifier.isStatic(inside.getModifiers())
                    && !Modifier.isPublic(inside.getModifiers())
                    && !Modifier.isProtected(inside.getModifiers()), true);
        }
        Check.end();
    }
}
