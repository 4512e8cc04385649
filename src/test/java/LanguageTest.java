import java.io.IOException;
import java.lang.reflect.Constructor;
import java.lang.reflect.Field;
import java.lang.reflect.Method;
import java.lang.reflect.Modifier;
import java.nio.file.Files;
import java.nio.file.Path;
import java.util.Arrays;
import java.util.LinkedHashSet;
import java.util.Set;
import java.util.TreeSet;
import java.util.regex.Matcher;
import java.util.regex.Pattern;
import java.util.stream.Collectors;

/** The public face of the document, and those rules of LANGUAGE.md that a text shows easily. */
public final class LanguageTest {
    private static final Due DUE = new Due("LanguageTest");
    private static final Path SOURCE = Path.of("src/main/java/BackByTwice.java");

    private static final String FACE = "int row(int,int,int); int set(int,int,long);"
        + "int copy(int,int,int,int,int); long element(int,int); int holds(int); int show(int,int);"
        + "int says(int,int); int comes(); int law(int,int); int use(int); int tell(int,int,int);"
        + "int feed(int); int wipe(); int shop(); int personOf(int,int); int lawOf(int,int);"
        + "int at(int); int stands(int,int); int behind(int,int,int); int served(int); int round();"
        + "int when(int,int); int never(); int stand(int); int leader(int); int waits(int);"
        + "int several(int); int beside(int,int); int unlike(int,int); int lawFor(int,int);"
        + "int newcomer(); int forward(int,int,int); int level(int); int spread(int,int);"
        + "int fairest(int); int judge(int,int); int fits(int,int); int pushed(int,int);"
        + "int again(int,boolean); int lies(int,boolean,int,int); int stay(int,boolean,int);"
        + "int rounds(int,boolean); int tail(int); int brings(int,int,int); int after(int,int);"
        + "int fewest(int); int unserved(); int longest(); int ranked(int); int serve(int);"
        + "int lets(int); int moves(int,int); int leaves(); int day(int); int anew(); int seed(int);"
        + "int image(); int back(); int status(int)";

    public static void main(String[] args) throws IOException {
        theFace();
        noPrivateMethodBearsAPublicName();
        if (Files.exists(SOURCE)) {
            theText(Files.readString(SOURCE));
        } else {
            DUE.is("there is " + SOURCE, 0, 1);
        }
        DUE.end();
    }

    private static void theFace() {
        Class<?> face = BackByTwice.class;
        DUE.is("the class is public and final", face.getModifiers() & 0xffff,
            Modifier.PUBLIC | Modifier.FINAL);
        Set<String> due = Arrays.stream(FACE.split(";")).map(String::trim)
            .collect(Collectors.toCollection(TreeSet::new));
        Set<String> got = new TreeSet<>();
        for (Method method : face.getDeclaredMethods()) {
            if (!Modifier.isPrivate(method.getModifiers())) {
                DUE.is(method + " is public alone", method.getModifiers(), Modifier.PUBLIC);
                got.add(method.getReturnType() + " " + method.getName() + "("
                    + Arrays.stream(method.getParameterTypes()).map(Class::getName)
                        .collect(Collectors.joining(",")) + ")");
            }
        }
        DUE.is("sixty promises but the constructor's", due.size(), 59);
        DUE.is("methods not as due: " + difference(due, got), difference(due, got).size(), 0);
        Constructor<?>[] constructors = face.getDeclaredConstructors();
        DUE.is("constructors", constructors.length, 1);
        DUE.is("of no arguments", constructors[0].getParameterCount(), 0);
        DUE.is("public", constructors[0].getModifiers(), Modifier.PUBLIC);
        for (Field field : face.getDeclaredFields()) {
            boolean isNone = field.getName().equals("NONE");
            DUE.is(field + " is private, if it isn't NONE",
                Modifier.isPrivate(field.getModifiers()) == !isNone ? 1 : 0, 1);
            DUE.is(field + " is final, if it's static", Modifier.isStatic(field.getModifiers())
                && !Modifier.isFinal(field.getModifiers()) ? 0 : 1, 1);
        }
        for (Class<?> inside : face.getDeclaredClasses()) {
            int modifiers = inside.getModifiers();
            DUE.is(inside + " is static and not public",
                Modifier.isStatic(modifiers) && !Modifier.isPublic(modifiers)
                    && !Modifier.isProtected(modifiers) ? 1 : 0, 1);
        }
    }

    private static Set<String> difference(Set<String> one, Set<String> other) {
        Set<String> different = new TreeSet<>(one);
        different.addAll(other);
        different.removeIf(name -> one.contains(name) && other.contains(name));
        return different;
    }

    private static void noPrivateMethodBearsAPublicName() {
        Set<String> names = Arrays.stream(FACE.split(";"))
            .map(line -> line.trim().replaceAll("^\\w+ (\\w+).*", "$1"))
            .collect(Collectors.toCollection(TreeSet::new));
        for (Method method : BackByTwice.class.getDeclaredMethods()) {
            if (Modifier.isPrivate(method.getModifiers())) {
                DUE.is("private " + method.getName(), names.contains(method.getName()) ? 1 : 0, 0);
            }
        }
    }

    private static void theText(String source) {
        String text = source.replaceAll("(?s)/\\*.*?\\*/", " ").replaceAll("//[^\n]*", " ")
            .replaceAll("\"[^\"\n]*\"|'[^'\n]*'", "0");
        String[] kept = {"throw", "throws", "try", "catch", "finally", "synchronized", "assert",
            "native", "package", "System.out", "System.in", "System.exit", "System.nanoTime",
            "System.currentTimeMillis", "Random", "Thread", "java.io", "java.net", "java.nio",
            "hashCode", "\\w+Exact", "\\w*Exception"};
        for (String word : kept) {
            Matcher matcher = Pattern.compile("(?<![\\w.])(\\w+\\.)?" + word + "\\b").matcher(text);
            DUE.is("the text has " + word, matcher.find() ? 1 : 0, 0);
        }
        for (String sign : new String[] {"::", "->"}) {
            DUE.is("the text has " + sign, text.contains(sign) ? 1 : 0, 0);
        }
        DUE.is("signs beyond 127", source.chars().filter(sign -> sign > 127).count(), 0);
        Matcher imports = Pattern.compile("import\\s+([\\w.*]+)\\s*;").matcher(text);
        Set<String> library = Set.of("java.util.Arrays", "java.util.ArrayList", "java.util.List",
            "java.util.Iterator");
        while (imports.find()) {
            DUE.is("import of " + imports.group(1), library.contains(imports.group(1)) ? 1 : 0, 1);
        }
        theLibrary(text);
        theSizes(text);
    }

    /** What the program calls by a class's name (rule 4), and where it makes objects (rule 12). */
    private static void theLibrary(String text) {
        Set<String> library = Set.of("System.arraycopy", "Arrays.fill", "Arrays.copyOf",
            "Arrays.copyOfRange", "Math.min", "Math.max", "Math.abs", "Math.floorMod", "Math.floorDiv",
            "Integer.bitCount", "Integer.compare", "Long.bitCount", "Long.compare");
        Matcher calls = Pattern.compile("\\b([A-Z]\\w*\\.[a-z]\\w*)\\s*\\(").matcher(text);
        while (calls.find()) {
            DUE.is("call of " + calls.group(1), library.contains(calls.group(1)) ? 1 : 0, 1);
        }
        boolean isInConstructor = false;
        for (String line : text.split("\n")) {
            if (line.matches(" {4,8}(public|private) .*\\{")) {
                isInConstructor = line.matches(" +(public|private) [A-Z]\\w*\\(.*");
            }
            DUE.is("made outside a constructor:" + line.trim(),
                line.matches(".*\\bnew\\b.*") && !isInConstructor ? 1 : 0, 0);
        }
    }

    /** Rule 11. */
    private static void theSizes(String text) {
        DUE.is("more than twelve classes", allClasses().size() > 12 ? 1 : 0, 0);
        for (Class<?> one : allClasses()) {
            long fields = Arrays.stream(one.getDeclaredFields())
                .filter(field -> !Modifier.isStatic(field.getModifiers())).count();
            DUE.is(one + " has more than twenty fields", fields > 20 ? 1 : 0, 0);
            for (Method method : one.getDeclaredMethods()) {
                DUE.is(method + " takes more than seven", method.getParameterCount() > 7 ? 1 : 0, 0);
            }
        }
        int length = 0;
        for (String line : text.split("\n")) {
            length = line.matches(" {4,8}(public|private) .*\\(.*") ? 0 : length + 1;
            DUE.is("a method of more than sixty lines:" + line, length > 60 ? 1 : 0, 0);
        }
    }

    private static Set<Class<?>> allClasses() {
        Set<Class<?>> classes = new LinkedHashSet<>(Arrays.asList(BackByTwice.class.getDeclaredClasses()));
        classes.add(BackByTwice.class);
        return classes;
    }
}
