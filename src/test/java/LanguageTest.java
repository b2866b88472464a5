import java.lang.reflect.Constructor;
import java.lang.reflect.Field;
import java.lang.reflect.Method;
import java.lang.reflect.Modifier;
import java.nio.charset.StandardCharsets;
import java.nio.file.Files;
import java.nio.file.Path;
import java.util.ArrayList;
import java.util.List;
import java.util.Set;
import java.util.TreeSet;

/** Those rules of LANGUAGE.md that can be looked at from outside, and the room that calls take. */
public final class LanguageTest {
    private static final String[] FORBIDDEN = {
        "catch", "try ", "finally", "synchronized", "assert", "->", "::", "Exact(", "System.", "Math.sqrt", "Double.",
        "Float.", "static {", "instanceof", "protected", "lambda", "while (true)", "for (;;)", "equals(", "hashCode",
        "toString", "double[][]", "Object"
    };
    private static final Set<String> FACE = Set.of("feed", "text", "fault", "kind", "span", "at", "ask", "digits", "exact",
        "compare", "where", "dot", "dots", "machine", "off", "count");

    public static void main(String[] args) throws Exception {
        source();
        methodsStayShort();
        face();
        inside();
        noRoomForCalls();
        Check.finish();
    }

    private static List<String> lines() throws Exception {
        return Files.readAllLines(Path.of("src/main/java/SureSums.java"), StandardCharsets.UTF_8);
    }

    private static void source() throws Exception {
        int number = 0;
        for (String line : lines()) {
            number++;
            Check.dueTrue("line " + number + " is ASCII", line.chars().allMatch(c -> c >= 32 && c < 127));
            String code = line.trim();
            boolean comment = code.startsWith("//") || code.startsWith("*") || code.startsWith("/*");
            for (String word : FORBIDDEN) {
                Check.dueTrue("line " + number + " has no " + word, comment || !code.contains(word));
            }
            if (code.startsWith("import")) {
                Check.dueTrue("line " + number + " imports what is listed", code.equals("import java.util.Arrays;")
                    || code.equals("import java.util.NoSuchElementException;"));
            }
        }
    }

    private static void methodsStayShort() throws Exception {
        int start = -1;
        String indent = "";
        int number = 0;
        for (String line : lines()) {
            number++;
            boolean opens = line.matches(" {4}( {4})?[A-Za-z][^=;]*\\(.*\\) (throws .*)?\\{");
            if (start < 0 && opens) {
                start = number;
                indent = line.substring(0, line.length() - line.stripLeading().length());
            } else if (start >= 0 && line.equals(indent + "}")) {
                Check.dueTrue("the method at line " + start + " has " + (number - start + 1) + " lines", number - start < 60);
                start = -1;
            }
        }
        Check.due("each method has an end", start, -1);
    }

    private static void face() {
        Set<String> methods = new TreeSet<>();
        for (Method method : SureSums.class.getDeclaredMethods()) {
            if (Modifier.isPublic(method.getModifiers())) {
                methods.add(method.getName());
            } else {
                Check.dueTrue(method + " is private", Modifier.isPrivate(method.getModifiers()));
                Check.dueTrue(method + " has a name of its own", !FACE.contains(method.getName()));
            }
        }
        Check.dueTrue("the methods of the face: " + methods, methods.equals(FACE));
        for (Field field : SureSums.class.getDeclaredFields()) {
            Check.dueTrue(field + " is private, or NONE", Modifier.isPrivate(field.getModifiers()) || field.getName().equals("NONE"));
        }
        for (Constructor<?> one : SureSums.class.getDeclaredConstructors()) {
            Check.dueTrue(one + " is public without parameters", Modifier.isPublic(one.getModifiers()) && one.getParameterCount() == 0);
        }
        Check.dueTrue("the class is public and final", Modifier.isFinal(SureSums.class.getModifiers())
            && Modifier.isPublic(SureSums.class.getModifiers()));
    }

    private static void inside() {
        List<Class<?>> classes = new ArrayList<>(List.of(SureSums.class.getDeclaredClasses()));
        Check.dueTrue("twelve classes at most", classes.size() <= 11);
        for (Class<?> one : classes) {
            Check.dueTrue(one + " is private and static",
                Modifier.isPrivate(one.getModifiers()) && Modifier.isStatic(one.getModifiers()));
        }
        classes.add(SureSums.class);
        for (Class<?> one : classes) {
            int fields = 0;
            for (Field field : one.getDeclaredFields()) {
                boolean constant = Modifier.isStatic(field.getModifiers());
                fields += constant ? 0 : 1;
                Check.dueTrue(field + " is final if static", !constant || Modifier.isFinal(field.getModifiers()));
                Check.dueTrue(field + " is no double constant", !constant || field.getType() != double.class);
            }
            Check.dueTrue(one + " has twenty fields at most", fields <= 20);
            for (Method method : one.getDeclaredMethods()) {
                Check.dueTrue(method + " takes seven at most", method.getParameterCount() <= 7);
                Check.dueTrue(method + " has a name of its own", one == SureSums.class || !FACE.contains(method.getName()));
            }
        }
    }

    /** All rows are made with the object: whatever is called then makes no object at all. */
    private static void noRoomForCalls() {
        com.sun.management.ThreadMXBean room =
            (com.sun.management.ThreadMXBean) java.lang.management.ManagementFactory.getThreadMXBean();
        SureSums x = Check.told("fun f=t*t-2;let a=nought(f,0,2);let b=sqrt(2);let c=if(a<b,1/3,area(f,0,1));let d=7/3;");
        callAll(x);
        long before = room.getCurrentThreadAllocatedBytes();
        for (int k = 0; k < 20; k++) {
            callAll(x);
        }
        long after = room.getCurrentThreadAllocatedBytes();
        Check.dueTrue("20 rounds of calls took " + (after - before) + " bytes", after - before < 2000);
        before = room.getCurrentThreadAllocatedBytes();
        SureSums one = new SureSums();
        after = room.getCurrentThreadAllocatedBytes();
        Check.dueTrue("an object took " + (after - before) + " bytes", after - before < 40000 && one.count(0) == 0);
    }

    private static void callAll(SureSums x) {
        for (int letter = -1; letter < 27; letter++) {
            x.kind(letter);
            x.span(letter, 20, 0);
            x.at(letter, -1, 1, 20, 1);
            x.ask(letter, 9, 0);
            x.digits(letter);
            x.exact(letter, 0);
            x.compare(letter, 0);
            x.where(letter, -1, 1);
            x.dot(letter, 0, 0);
            x.dots(letter, 0, 0, 3, 1);
            if (x.kind(letter) == 1) {
                x.machine(letter);
            }
            x.off(letter);
            x.count(letter);
            x.fault(letter);
        }
        // "fun f=t*t-2;let a=1;" and a text that has a fault
        x.feed(0x66756e20, 0x663d742a, 0x742d323b, 0x6c657420, 0x613d313b);
        x.text(20);
        x.feed(0x66756e20, 0x663d742a, 0x742d323b, 0x6c657420, 0x613d243b);
        x.text(20);
    }
}
