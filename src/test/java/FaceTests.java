import java.io.IOException;
import java.lang.reflect.Constructor;
import java.lang.reflect.Field;
import java.lang.reflect.Method;
import java.lang.reflect.Modifier;
import java.nio.file.Files;
import java.nio.file.Path;
import java.util.Arrays;
import java.util.HashSet;
import java.util.Set;
import java.util.TreeSet;
import java.util.regex.Matcher;
import java.util.regex.Pattern;

/** The public face is that of the document and no more, and the source keeps to what LANGUAGE.md leaves. */
public final class FaceTests {
    private static final String[] METHODS = {"buy(int)", "addCase()", "cast(int,int,int)", "castFount(int,int)",
        "melt(int,int,int)", "meltBox()", "type(char)", "clearText()", "order(int,int,int)", "set(int)", "castMissing(int)",
        "print(int)", "distribute(int)", "cancel(int)", "pass(int)", "undo()", "keep()", "restore()", "pieces(int,int)",
        "job(int,int)", "need(int,int)", "missing(int,int)", "taken(int,int,int)", "gap(int,int,int)",
        "pieceAt(int,int,int)", "urgent()", "count(int)"};
    private static final String[] CONSTANTS = {"UNKNOWN", "BAD_VALUE", "FULL", "NOT_POSSIBLE", "NONE"};
    private static final String[] FORBIDDEN = {"throw", "throws", "try", "catch", "synchronized", "assert", "volatile",
        "native", "import", "package", "instanceof", "equals", "hashCode", "toString", "Random", "Thread", "Object"};

    private static void face() {
        Check.part("the face");
        Class<?> face = TypeWorkshop.class;
        Check.holds("public and final", Modifier.isPublic(face.getModifiers()) && Modifier.isFinal(face.getModifiers()));
        Set<String> methods = new TreeSet<>();
        Set<String> hidden = new HashSet<>();
        for (Method method : face.getDeclaredMethods()) {
            String types = Arrays.toString(method.getParameterTypes()).replaceAll("[\\[\\] ]", "");
            if (Modifier.isPrivate(method.getModifiers())) {
                hidden.add(method.getName());
            } else {
                methods.add(method.getName() + "(" + types + ")");
                Check.holds(method + " is public, of the object, and answers an int", Modifier.isPublic(method.getModifiers())
                    && !Modifier.isStatic(method.getModifiers()) && method.getReturnType() == int.class);
            }
        }
        Check.holds("the methods are " + methods, methods.equals(new TreeSet<>(Arrays.asList(METHODS))));
        for (String method : METHODS) {
            String name = method.substring(0, method.indexOf('('));
            Check.holds("a private method is named " + name, !hidden.contains(name));
        }
        Set<String> constants = new TreeSet<>();
        for (Field field : face.getDeclaredFields()) {
            int modifiers = field.getModifiers();
            if (!Modifier.isPrivate(modifiers)) {
                constants.add(field.getName());
                Check.holds(field + " is a constant", Modifier.isPublic(modifiers) && Modifier.isStatic(modifiers)
                    && Modifier.isFinal(modifiers) && field.getType() == int.class);
            }
        }
        Check.holds("the constants are " + constants, constants.equals(new TreeSet<>(Arrays.asList(CONSTANTS))));
        Constructor<?>[] constructors = face.getDeclaredConstructors();
        Check.holds("one public constructor without parameters", constructors.length == 1
            && Modifier.isPublic(constructors[0].getModifiers()) && constructors[0].getParameterCount() == 0);
        inside(face);
    }

    private static void inside(Class<?> face) {
        Class<?>[] classes = face.getDeclaredClasses();
        Check.holds("at most some twelve classes", classes.length <= 12);
        for (Class<?> one : classes) {
            int modifiers = one.getModifiers();
            Check.holds(one + " is static and not public", Modifier.isStatic(modifiers) && !Modifier.isPublic(modifiers)
                && !Modifier.isProtected(modifiers));
            Check.holds(one + " has at most some twenty fields", one.getDeclaredFields().length <= 20);
            for (Method method : one.getDeclaredMethods()) {
                Check.holds(method + " has at most seven parameters", method.getParameterCount() <= 7);
                for (String name : METHODS) {
                    Check.holds(method + " is named as one of the face", !name.startsWith(method.getName() + "("));
                }
            }
        }
    }

    private static void language(String file) throws IOException {
        Check.part("the language");
        String source = Files.readString(Path.of(file));
        String code = source.replaceAll("(?s)/\\*.*?\\*/", " ").replaceAll("//[^\n]*", " ");
        for (String word : FORBIDDEN) {
            Check.holds("the word " + word + " stands in the source", !Pattern.compile("\\b" + word + "\\b").matcher(code).find());
        }
        Check.holds("a lambda or a method reference stands in the source", !code.contains("->") && !code.contains("::"));
        Check.holds("a text stands in the source", !code.contains("\""));
        Check.holds("a sign beyond 127 stands in the source", source.chars().allMatch(sign -> sign < 128));
        Matcher library = Pattern.compile("\\b(Math|System|Integer|Long|Arrays)\\.(\\w+)").matcher(code);
        Set<String> allowed = Set.of("Math.min", "Math.max", "System.arraycopy");
        while (library.find()) {
            Check.holds(library.group() + " is not one of " + allowed, allowed.contains(library.group()));
        }
        Matcher statics = Pattern.compile("\\bstatic\\s+(?!final|class|int|boolean|char)(\\w+)").matcher(code);
        Check.holds("a static that is no constant, class or plain function", !statics.find());
        methodsAreShort(code);
    }

    private static void methodsAreShort(String code) {
        String[] lines = code.split("\n");
        int start = -1;
        String indent = "";
        for (int i = 0; i < lines.length; i++) {
            Matcher head = Pattern.compile("^( {4}| {8})\\S.*\\) \\{$").matcher(lines[i]);
            if (start < 0 && head.find()) {
                start = i;
                indent = head.group(1);
            } else if (start >= 0 && lines[i].equals(indent + "}")) {
                Check.holds("the method of line " + (start + 1) + " is too long", i - start <= 60);
                start = -1;
            }
        }
    }

    public static void main(String[] args) throws IOException {
        face();
        language(args.length > 0 ? args[0] : "src/main/java/TypeWorkshop.java");
        Check.end();
    }
}
