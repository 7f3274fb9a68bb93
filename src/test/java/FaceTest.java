import java.io.IOException;
import java.lang.reflect.Constructor;
import java.lang.reflect.Field;
import java.lang.reflect.Method;
import java.lang.reflect.Modifier;
import java.nio.file.Files;
import java.nio.file.Path;
import java.util.Arrays;
import java.util.Set;
import java.util.TreeSet;

/** The public face, and rules of LANGUAGE.md that can be seen from the class and its source. */
public final class FaceTest {
    private static final String[] FACE = {
        "int feed(int, int, int, int, int)", "boolean end(int)", "int fault(int)", "int text(int)", "int rule(int)",
        "int field(int, int)", "boolean law(int)", "boolean heresy(int)", "int year(int)", "int sell(int, int, int)",
        "int forgive(int, int)", "int hedge(int)", "int can(int)", "int price(int)", "int years(int, long)",
        "int undo()", "int log(int, int)", "int step(int, int, int)", "int run(int, int)", "int perform(int)",
        "int falls(int, int)", "int drowns(int)", "int safe()", "int least(int, int)", "int best(int, int)",
        "int trades(int, int)", "int fell(int, int, int, boolean)", "int debts(int, int)", "int ask(int, int)",
        "int game(int, int, int, int, int, int)", "int rests(int, int, int, int)", "int odds(int, int, int)",
        "int turn(int)", "int ahead(int, int, int)", "int even(int, int)", "int together(int)", "int all(int)",
        "int shares(int, int)", "int buyers(int)", "int harvest(int)", "int forgiven(int)", "int image()",
        "int back()", "int count(int)"};
    private static final String[] FORBIDDEN = {"->", "::", "Exact(", "catch", "try ", "finally", "synchronized",
        "assert ", "System.out", "Random", "System.nano", "System.current", "Thread", ".hashCode(", ".toString("};

    public static void main(String[] args) throws IOException {
        Checks c = new Checks();
        Set<String> names = new TreeSet<>();
        Set<String> open = new TreeSet<>();
        for (Method method : RainOwed.class.getDeclaredMethods()) {
            if (Modifier.isPublic(method.getModifiers())) {
                names.add(method.getName());
                String types = Arrays.toString(method.getParameterTypes());
                open.add(method.getReturnType() + " " + method.getName() + "("
                    + types.substring(1, types.length() - 1) + ")");
            }
        }
        Set<String> face = new TreeSet<>(Arrays.asList(FACE));
        c.due("44 methods", 44, face.size());
        c.due("the methods of the face: " + open, true, open.equals(face));
        c.due("final and public", Modifier.PUBLIC | Modifier.FINAL, RainOwed.class.getModifiers());
        membersOf(c, names);
        classesInside(c, names);
        source(c);
        c.close("FaceTest");
    }

    private static void membersOf(Checks c, Set<String> names) {
        Set<String> constants = new TreeSet<>(Arrays.asList("NONE", "HIDDEN"));
        for (Field field : RainOwed.class.getDeclaredFields()) {
            boolean isOpen = constants.contains(field.getName());
            c.due("field " + field.getName(), isOpen, Modifier.isPublic(field.getModifiers()));
            c.due("field " + field.getName() + " is private", !isOpen, Modifier.isPrivate(field.getModifiers()));
            c.due("static is final", false,
                Modifier.isStatic(field.getModifiers()) && !Modifier.isFinal(field.getModifiers()));
        }
        for (Constructor<?> constructor : RainOwed.class.getDeclaredConstructors()) {
            c.due("constructor", true, Modifier.isPublic(constructor.getModifiers())
                && constructor.getParameterCount() == 0);
        }
        for (Method method : RainOwed.class.getDeclaredMethods()) {
            String told = Arrays.toString(method.getExceptionTypes());
            String due = method.getName().equals("field") ? "[class java.util.NoSuchElementException]" : "[]";
            c.due(method.getName() + " tells what it throws: " + told, true, told.equals(due));
            boolean isPrivate = Modifier.isPrivate(method.getModifiers());
            c.due(method + " is public or private", true, isPrivate || Modifier.isPublic(method.getModifiers()));
            c.due(method + " bears a name of its own", false, isPrivate && names.contains(method.getName()));
        }
    }

    private static void classesInside(Checks c, Set<String> names) {
        Class<?>[] inside = RainOwed.class.getDeclaredClasses();
        c.due("some twelve classes", true, inside.length < 12);
        for (Class<?> one : inside) {
            c.due(one + " is static", true, Modifier.isStatic(one.getModifiers()));
            c.due(one + " is not public", false, Modifier.isPublic(one.getModifiers()));
            int fields = 0;
            for (Field field : one.getDeclaredFields()) {
                boolean isStatic = Modifier.isStatic(field.getModifiers());
                fields += isStatic ? 0 : 1;
                c.due("static is final", false, isStatic && !Modifier.isFinal(field.getModifiers()));
            }
            c.due(one + " has few fields", true, fields <= 20);
            for (Method method : one.getDeclaredMethods()) {
                c.due(method + " bears a name of its own", false, names.contains(method.getName()));
                c.due(method + " takes few", true, method.getParameterCount() <= 7);
            }
        }
    }

    private static void source(Checks c) throws IOException {
        String text = Files.readString(Path.of("src/main/java/RainOwed.java"));
        for (String word : FORBIDDEN) {
            c.due("no '" + word + "'", false, text.contains(word));
        }
        int imports = 0;
        for (String line : text.split("\n")) {
            imports += line.startsWith("import ") ? 1 : 0;
            c.due("no long line: " + line, true, line.length() <= 120);
        }
        c.due("two imports", 2, imports);
        c.due("one throw", true, text.indexOf("throw new") == text.lastIndexOf("throw new"));
    }
}
