import java.io.IOException;
import java.lang.reflect.Constructor;
import java.lang.reflect.Field;
import java.lang.reflect.Method;
import java.lang.reflect.Modifier;
import java.nio.file.Files;
import java.nio.file.Path;
import java.util.Set;
import java.util.TreeSet;

/** The public face of the document, and what of LANGUAGE.md a plain look at the class and its text can tell. */
public final class FaceTest {
    private static final String[] FACE = {
        "int input(int)", "int keeper(int,int)", "int gate(int,int,int,int)", "int connect(int,int)",
        "int bound(int,int,int)", "int still(int,boolean)", "int promise(int,int,int)", "int start()",
        "int moment(int,int,int)", "int value(int)", "int either(int)", "int ticks(int,int)", "int broken(int)",
        "int walk()", "int state(int,int)", "int shown(int,int)", "int never(int,int)", "int follow(int)",
        "int fewest(int)", "int crossings()", "int crossing(int,int)", "int mend(int)", "int count(int)",
        "int look(int,int)", "int keep(int,int,int)", "int make(int,int,int)",
        "long element(int,int) IllegalArgumentException IllegalStateException", "int copy(int,int,int,int,int)",
        "int weight(int)", "int toss(int)"};

    private final Due due = new Due();

    public static void main(String[] args) throws IOException {
        FaceTest t = new FaceTest();
        t.face();
        t.therest();
        t.classesInside();
        t.text();
        t.due.end();
    }

    private static String signature(Method m) {
        StringBuilder b = new StringBuilder();
        b.append(m.getReturnType().getSimpleName()).append(' ').append(m.getName()).append('(');
        String comma = "";
        for (Class<?> type : m.getParameterTypes()) {
            b.append(comma).append(type.getSimpleName());
            comma = ",";
        }
        b.append(')');
        for (Class<?> type : m.getExceptionTypes()) {
            b.append(' ').append(type.getSimpleName());
        }
        return b.toString();
    }

    private void face() {
        Set<String> want = new TreeSet<>(Set.of(FACE));
        Set<String> got = new TreeSet<>();
        for (Method m : ClockCourt.class.getDeclaredMethods()) {
            if (Modifier.isPublic(m.getModifiers())) {
                got.add(signature(m));
                due.is("static: " + m.getName(), m.getModifiers() & Modifier.STATIC, 0);
            }
        }
        for (String call : want) {
            due.is("the face has " + call, got.contains(call) ? 1 : 0, 1);
        }
        due.is("methods of the face", got.size(), FACE.length);
        Constructor<?>[] made = ClockCourt.class.getDeclaredConstructors();
        due.is("constructors", made.length, 1);
        due.is("parameters of the constructor", made[0].getParameterCount(), 0);
        due.is("the constructor is public", made[0].getModifiers(), Modifier.PUBLIC);
        due.is("the class is public and final", ClockCourt.class.getModifiers(), Modifier.PUBLIC | Modifier.FINAL);
    }

    private void therest() {
        Set<String> names = new TreeSet<>();
        for (String call : FACE) {
            names.add(call.substring(call.indexOf(' ') + 1, call.indexOf('(')));
        }
        for (Method m : ClockCourt.class.getDeclaredMethods()) {
            if (!Modifier.isPublic(m.getModifiers()) && !m.isSynthetic()) {
                due.is(m.getName() + " is private", m.getModifiers() & Modifier.PRIVATE, Modifier.PRIVATE);
                due.is(m.getName() + " is no name of the face", names.contains(m.getName()) ? 1 : 0, 0);
            }
        }
        for (Field f : ClockCourt.class.getDeclaredFields()) {
            due.is(f.getName() + " is private", f.getModifiers() & Modifier.PRIVATE, Modifier.PRIVATE);
        }
    }

    private void classesInside() {
        Class<?>[] inside = ClockCourt.class.getDeclaredClasses();
        due.is("twelve classes at most", inside.length + 1 <= 12 ? 1 : 0, 1);
        for (Class<?> c : inside) {
            due.is(c.getName() + " is static", c.getModifiers() & Modifier.STATIC, Modifier.STATIC);
            int fields = 0;
            for (Field f : c.getDeclaredFields()) {
                boolean fixed = Modifier.isStatic(f.getModifiers());
                due.is(f.getName() + " static and not final",
                    fixed && !Modifier.isFinal(f.getModifiers()) ? 1 : 0, 0);
                fields += fixed ? 0 : 1;
            }
            due.is(c.getName() + " has twenty fields at most", fields <= 20 ? 1 : 0, 1);
            for (Method m : c.getDeclaredMethods()) {
                due.is(m.getName() + " takes seven at most", m.getParameterCount() <= 7 ? 1 : 0, 1);
            }
        }
    }

    private void text() throws IOException {
        String text = Files.readString(Path.of("src/main/java/ClockCourt.java"));
        String[] none = {
            "package ", "->", "::", "finally", "synchronized", "assert ", "Exact(", "getMessage", "System.out",
            "System.nano", "System.current", "Random", "Thread", "catch (RuntimeException", "catch (Exception",
            "catch (Throwable", "catch (IndexOutOf", "catch (ArrayIndex", "catch (NullPointer",
            "catch (Arithmetic", "catch (ClassCast", "catch (NegativeArray", "catch (ArrayStore", "[][]", "Object"};
        for (String word : none) {
            due.is("the text has no " + word, text.contains(word) ? 1 : 0, 0);
        }
        for (String line : text.split("\n")) {
            if (line.startsWith("import ")) {
                due.is(line, line.equals("import java.util.Arrays;") ? 1 : 0, 1);
            }
        }
    }
}
