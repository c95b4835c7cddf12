import java.lang.reflect.Executable;
import java.lang.reflect.Field;
import java.lang.reflect.Method;
import java.lang.reflect.Modifier;
import java.util.ArrayList;
import java.util.Arrays;
import java.util.List;
import java.util.TreeSet;
import java.util.regex.Matcher;
import java.util.regex.Pattern;

/** The public face, as the document tells it: names, types and exceptions, and nothing else that is not private. */
public final class FaceTest {
    private static final Pattern CALL = Pattern.compile("(int|boolean|void) (\\w+)\\((.*?)\\)( throws ([\\w, ]+))?");

    public static void main(String[] args) {
        Check c = new Check();
        classItself(c);
        if (!Check.document().isEmpty()) {
            c.due("the calls", declared().toString(), told(Check.section("## The public face"), "public ").toString());
            c.due("the calls of the promises", told(promises(), "`").toString(), declared().toString());
        }
        c.close();
    }

    private static void classItself(Check c) {
        Class<RiddleRoad> face = RiddleRoad.class;
        c.due("public and final", face.getModifiers() & (Modifier.PUBLIC | Modifier.FINAL), Modifier.PUBLIC | Modifier.FINAL);
        c.due("of no package", face.getPackageName(), "");
        c.due("of no other class", face.getSuperclass().getName(), "java.lang.Object");
        c.due("of no interface", face.getInterfaces().length, 0);
        c.due("one constructor", face.getDeclaredConstructors().length, 1);
        c.due("it is public", face.getConstructors().length, 1);
        c.due("of no arguments", face.getConstructors()[0].getParameterCount(), 0);
        c.due("it throws nothing", face.getConstructors()[0].getExceptionTypes().length, 0);
        List<String> fields = new ArrayList<>();
        for (Field field : face.getDeclaredFields()) {
            if (!Modifier.isPrivate(field.getModifiers())) {
                fields.add(field.toString());
            }
        }
        c.due("one constant", fields.toString(), "[public static final int RiddleRoad.NONE]");
        c.due("NONE", RiddleRoad.NONE, -1);
    }

    /** All that is not private, but for what the compiler makes itself. */
    private static TreeSet<String> declared() {
        TreeSet<String> calls = new TreeSet<>();
        for (Method method : RiddleRoad.class.getDeclaredMethods()) {
            if (!Modifier.isPrivate(method.getModifiers()) && !method.isSynthetic()) {
                String open = Modifier.isPublic(method.getModifiers()) && !Modifier.isStatic(method.getModifiers()) ? "" : "not open: ";
                calls.add(open + method.getReturnType() + " " + method.getName() + types(method));
            }
        }
        return calls;
    }

    private static String types(Executable call) {
        List<String> exceptions = new ArrayList<>();
        for (Class<?> exception : call.getExceptionTypes()) {
            exceptions.add(exception.getSimpleName());
        }
        return Arrays.toString(call.getParameterTypes()) + " throws " + exceptions;
    }

    private static TreeSet<String> told(String text, String ahead) {
        TreeSet<String> calls = new TreeSet<>();
        for (String line : text.split("\n")) {
            Matcher call = CALL.matcher(line);
            if (line.strip().startsWith(ahead) && call.find()) {
                List<String> types = new ArrayList<>();
                for (String argument : call.group(3).isEmpty() ? new String[0] : call.group(3).split(", ")) {
                    types.add(argument.split(" ")[0]);
                }
                String exceptions = call.group(5) == null ? "" : call.group(5);
                calls.add(call.group(1) + " " + call.group(2) + types + " throws [" + exceptions + "]");
            }
        }
        return calls;
    }

    private static String promises() {
        StringBuilder all = new StringBuilder();
        for (int promise = 1; promise <= 35; promise++) {
            all.append(Check.section("## Promise " + promise + ":"));
        }
        return all.toString();
    }
}
