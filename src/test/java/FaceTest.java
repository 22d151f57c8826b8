import java.lang.reflect.Constructor;
import java.lang.reflect.Field;
import java.lang.reflect.Method;
import java.lang.reflect.Modifier;
import java.nio.file.Files;
import java.nio.file.Path;
import java.util.ArrayList;
import java.util.Collections;
import java.util.List;
import java.util.regex.Matcher;
import java.util.regex.Pattern;

/** The class has the face that ../shared/DOC.md writes, and no more. */
public final class FaceTest {
    private static final Due d = new Due("FaceTest");

    public static void main(String[] args) throws Exception {
        String document = Files.readString(Path.of("../shared/DOC.md"));
        int from = document.indexOf("public final class BedsArePlaces");
        String face = document.substring(from, document.indexOf("```", from));
        constants(face);
        methods(face);
        constructors();
        inside();
        d.end();
    }

    private static void constants(String face) throws Exception {
        Matcher m = Pattern.compile("([A-Z]+) = (-\\d+)").matcher(face);
        int many = 0;
        while (m.find()) {
            Field field = BedsArePlaces.class.getField(m.group(1));
            d.due(m.group(1), field.getInt(null), Integer.parseInt(m.group(2)));
            d.holds(m.group(1) + " is final", Modifier.isFinal(field.getModifiers()));
            many++;
        }
        d.due("constants", BedsArePlaces.class.getFields().length, many);
        d.due("constants of the document", many, 8);
        for (Field field : BedsArePlaces.class.getDeclaredFields()) {
            boolean open = Modifier.isPublic(field.getModifiers());
            d.holds(field.getName() + " is public or private", open || Modifier.isPrivate(field.getModifiers()));
            d.holds(field.getName() + " is final if it is static", !Modifier.isStatic(field.getModifiers()) || Modifier.isFinal(field.getModifiers()));
        }
    }

    private static void methods(String face) {
        List<String> due = new ArrayList<>();
        Matcher m = Pattern.compile("public int (\\w+)\\(([^)]*)\\)").matcher(face);
        while (m.find()) {
            due.add(m.group(1) + " " + (m.group(2).isBlank() ? 0 : m.group(2).split(",").length));
        }
        List<String> got = new ArrayList<>();
        for (Method method : BedsArePlaces.class.getDeclaredMethods()) {
            if (!Modifier.isPrivate(method.getModifiers())) {
                d.holds(method.getName() + " is public", Modifier.isPublic(method.getModifiers()));
                d.holds(method.getName() + " answers an int", method.getReturnType() == int.class);
                for (Class<?> parameter : method.getParameterTypes()) {
                    d.holds(method.getName() + " takes ints", parameter == int.class);
                }
                got.add(method.getName() + " " + method.getParameterCount());
            }
        }
        Collections.sort(due);
        Collections.sort(got);
        d.holds("methods are " + due + ", got " + got, due.equals(got));
        d.due("methods of the document", due.size(), 45);
    }

    private static void constructors() {
        Constructor<?>[] all = BedsArePlaces.class.getDeclaredConstructors();
        d.due("constructors", all.length, 1);
        d.due("parameters of the constructor", all[0].getParameterCount(), 0);
        d.holds("the constructor is public", Modifier.isPublic(all[0].getModifiers()));
        d.holds("the class is public and final", Modifier.isPublic(BedsArePlaces.class.getModifiers()) && Modifier.isFinal(BedsArePlaces.class.getModifiers()));
    }

    private static void inside() {
        List<String> open = new ArrayList<>();
        for (Method method : BedsArePlaces.class.getMethods()) {
            if (method.getDeclaringClass() == BedsArePlaces.class) {
                open.add(method.getName());
            }
        }
        Class<?>[] all = BedsArePlaces.class.getDeclaredClasses();
        d.holds("at most twelve classes", all.length < 12);
        for (Class<?> one : all) {
            d.holds(one + " is static", Modifier.isStatic(one.getModifiers()));
            d.holds(one + " is not public or protected", (one.getModifiers() & (Modifier.PUBLIC | Modifier.PROTECTED)) == 0);
            for (Method method : one.getDeclaredMethods()) {
                d.holds(one + "." + method.getName() + " bears no name of the face", !open.contains(method.getName()));
            }
        }
        for (Method method : BedsArePlaces.class.getDeclaredMethods()) {
            if (Modifier.isPrivate(method.getModifiers())) {
                d.holds(method.getName() + " bears no name of the face", !open.contains(method.getName()));
            }
        }
    }
}
