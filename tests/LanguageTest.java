import java.io.IOException;
import java.lang.reflect.Constructor;
import java.lang.reflect.Field;
import java.lang.reflect.Method;
import java.lang.reflect.Modifier;
import java.nio.file.Files;
import java.nio.file.Path;
import java.util.ArrayDeque;
import java.util.Deque;
import java.util.Set;
import java.util.TreeSet;
import java.util.regex.Matcher;
import java.util.regex.Pattern;

/** Looks at the class as LANGUAGE.md does: its face by reflection, its file by its words. */
public final class LanguageTest {
    private static final String[] BANNED_WORDS = {"throw", "throws", "try", "catch", "synchronized", "assert", "volatile",
        "transient", "native", "protected", "var", "yield", "equals", "hashCode", "toString", "System.out", "System.in",
        "System.nanoTime", "System.currentTimeMillis", "Random", "Thread", "instanceof", "float", "double"};

    private LanguageTest() {
    }

    private static String withoutComments(String source) {
        return source.replaceAll("(?s)/\\*.*?\\*/", "").replaceAll("//[^\n]*", "");
    }

    private static String typesOf(Class<?>[] types) {
        StringBuilder row = new StringBuilder();
        for (Class<?> type : types) {
            row.append(row.length() == 0 ? "" : ",").append(type.getSimpleName());
        }
        return row.toString();
    }

    /** The methods that the document's face has, each as its name and types. */
    private static Set<String> facePromised(String document) {
        Set<String> face = new TreeSet<>();
        Matcher m = Pattern.compile("public int (\\w+)\\(([^)]*)\\);").matcher(document);
        while (m.find()) {
            face.add(m.group(1) + "(" + m.group(2).replaceAll("int \\w+", "int").replace(" ", "") + ")");
        }
        return face;
    }

    private static void checkFace(String document) {
        Set<String> face = new TreeSet<>();
        Set<String> publicNames = new TreeSet<>();
        for (Method method : ZeroForcer.class.getDeclaredMethods()) {
            if (Modifier.isPublic(method.getModifiers())) {
                face.add(method.getName() + "(" + typesOf(method.getParameterTypes()) + ")");
                publicNames.add(method.getName());
                Check.holds(method + " answers an int", method.getReturnType() == int.class);
            }
        }
        Set<String> promised = facePromised(document);
        Check.holds("the document's face was found", promised.size() == 46);
        Check.holds("the face is " + promised + ", not " + face, face.equals(promised));
        checkMembers(publicNames);
    }

    private static void checkMembers(Set<String> publicNames) {
        for (Method method : ZeroForcer.class.getDeclaredMethods()) {
            int is = method.getModifiers();
            Check.holds(method + " is public or private", Modifier.isPublic(is) || Modifier.isPrivate(is));
            Check.holds(method + " has a name of its own",
                Modifier.isPublic(is) || !publicNames.contains(method.getName()));
        }
        for (Field field : ZeroForcer.class.getDeclaredFields()) {
            int is = field.getModifiers();
            boolean constant = Set.of("BAD", "NOT", "FULL", "STATE", "VOID").contains(field.getName());
            Check.holds(field + " is public as the face has it", Modifier.isPublic(is) == constant);
            Check.holds(field + " is public or private", constant || Modifier.isPrivate(is));
            Check.holds(field + " is final if static", !Modifier.isStatic(is) || Modifier.isFinal(is));
        }
        Constructor<?>[] made = ZeroForcer.class.getDeclaredConstructors();
        Check.holds("one public constructor", made.length == 1 && Modifier.isPublic(made[0].getModifiers()));
        Check.holds("public and final", Modifier.isFinal(ZeroForcer.class.getModifiers()));
        Check.holds("some twelve classes", ZeroForcer.class.getDeclaredClasses().length < 12);
        for (Class<?> inner : ZeroForcer.class.getDeclaredClasses()) {
            Check.holds(inner + " is static", Modifier.isStatic(inner.getModifiers()));
            Check.holds(inner + " is not public", !Modifier.isPublic(inner.getModifiers()));
            int fields = 0;
            for (Field field : inner.getDeclaredFields()) {
                fields += Modifier.isStatic(field.getModifiers()) ? 0 : 1;
            }
            Check.holds(inner + " has some twenty fields", fields <= 20);
            for (Method method : inner.getDeclaredMethods()) {
                Check.holds(method + " has a name of its own", !publicNames.contains(method.getName()));
                Check.holds(method + " has seven parameters at most", method.getParameterCount() <= 7);
            }
        }
    }

    private static void checkWords(String code) {
        for (String word : BANNED_WORDS) {
            boolean found = Pattern.compile("(?<![\\w.])" + Pattern.quote(word) + "(?!\\w)").matcher(code).find();
            Check.holds("no '" + word + "' in the file", !found);
        }
        Check.holds("no lambda, no arrow", !code.contains("->"));
        Check.holds("no method reference", !code.contains("::"));
        Check.holds("no text", !code.contains("\""));
        Check.holds("no annotation", !code.contains("@"));
        Check.holds("no package", !Pattern.compile("(?m)^\\s*package\\b").matcher(code).find());
        Check.holds("plain signs alone", code.chars().allMatch(c -> c == '\n' || (c >= 32 && c < 127)));
        Matcher imports = Pattern.compile("import ([\\w.*]+);").matcher(code);
        while (imports.find()) {
            Check.holds("import of " + imports.group(1), imports.group(1).equals("java.util.Arrays"));
        }
        Matcher library = Pattern.compile("\\b(Arrays|System|Math|Integer|Long|String)\\.(\\w+)").matcher(code);
        Set<String> known = Set.of("Arrays.fill", "System.arraycopy", "Math.min", "Math.max", "Integer.bitCount",
            "Integer.MIN_VALUE");
        while (library.find()) {
            Check.holds(library.group() + " is in the library", known.contains(library.group()));
        }
    }

    private static void checkLoops(String code) {
        Check.holds("no while: each loop counts", !Pattern.compile("\\b(while|do)\\b").matcher(code).find());
        Check.holds("no endless for", !Pattern.compile("for\\s*\\([^;]*;\\s*;").matcher(code).find());
    }

    /** Methods stay below some sixty lines: a brace that opens behind a bracket, up to the one that closes it. */
    private static void checkLengths(String source) {
        String[] lines = source.split("\n");
        Deque<Integer> open = new ArrayDeque<>();
        int longest = 0;
        for (int i = 0; i < lines.length; i++) {
            for (char sign : lines[i].toCharArray()) {
                if (sign == '{') {
                    open.push(i);
                } else if (sign == '}') {
                    int from = open.pop();
                    boolean isClass = lines[from].contains(" class ");
                    longest = isClass ? longest : Math.max(longest, i - from + 1);
                }
            }
        }
        Check.holds("the longest method has " + longest + " lines", longest <= 60);
    }

    public static void main(String[] args) throws IOException {
        Path root = Path.of(args.length > 0 ? args[0] : ".");
        String source = Files.readString(root.resolve("src/main/java/ZeroForcer.java"));
        checkFace(Files.readString(root.resolve("../shared/DOC.md")));
        checkWords(withoutComments(source));
        checkLoops(withoutComments(source));
        checkLengths(source);
        Check.end();
    }
}
