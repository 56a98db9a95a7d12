import java.io.IOException;
import java.lang.reflect.Constructor;
import java.lang.reflect.Field;
import java.lang.reflect.Method;
import java.lang.reflect.Modifier;
import java.nio.file.Files;
import java.nio.file.Path;
import java.util.ArrayList;
import java.util.Arrays;
import java.util.List;
import java.util.Set;
import java.util.TreeSet;
import java.util.regex.Matcher;
import java.util.regex.Pattern;

/** What can be seen of the rules of LANGUAGE.md from the file and from the class; and the face. */
public final class LanguageTest {
    private static final Path FILE = Path.of("src/main/java/GoodsUnderWay.java");
    private static final String[] FACE = {"int station(int,int)", "int line(int,int,int,int,int)", "int of(int,int)",
        "int its(int,int)", "int set(int,int,int)", "int change(int,int,int)", "int as(int,int)", "int stands(int,int)",
        "int send(int,int)", "int go(int)", "int now(int)", "int most(int,int)", "int quick(int,int)", "int all(int)",
        "int near(int,int,int)", "int cost(int,int,int)", "int lose(int,int)", "int widen(int,int)",
        "int held(int,int,int)", "int begin(int,int)", "int kind(int,int,int)", "int goal(int)",
        "int steady(int,int,int)", "int rate(int,int)", "int gain(int,int,int)", "int reach(int,int,int)",
        "int feed(int,int)", "int wipe()", "int text()", "int sheet(int,int,int)", "long write(int,int,long)",
        "int copy(int,int,int,int,int)", "int lays(int)", "int book(int,int)", "int replay(int,int,int)",
        "int run(int,int,int)", "int image()", "int undo()", "int tear()", "int count(int)", "int status(int)"};
    private static final String[] FORBIDDEN = {"throw", "throws", "try", "catch", "finally", "synchronized", "assert",
        "volatile", "transient", "native", "strictfp", "goto", "System\\.(?!arraycopy)\\w+", "->", "::", "@\\w+",
        "Object", "Thread", "Random", "\\w+Exact", "Integer\\.\\w+_VALUE", "Long\\.\\w+_VALUE", "hashCode",
        "toString", "var", "import (?!java\\.util\\.Arrays;)[^;]+;", "package", "\\|=\\s*true", "NaN"};

    private LanguageTest() { }

    private static String plain(String text) {
        return text.replaceAll("(?s)/\\*.*?\\*/", "").replaceAll("//[^\n]*", "")
                .replaceAll("\"[^\"\n]*\"", "\"\"").replaceAll("'[^'\n]'", "'x'");
    }

    private static void face() {
        Set<String> due = new TreeSet<>(Arrays.asList(FACE));
        Set<String> got = new TreeSet<>();
        Set<String> names = new TreeSet<>();
        for (Method method : GoodsUnderWay.class.getDeclaredMethods()) {
            if (Modifier.isPublic(method.getModifiers())) {
                names.add(method.getName());
                got.add(told(method));
                Check.holds(told(method) + " isn't static", !Modifier.isStatic(method.getModifiers()));
            } else {
                Check.holds(method + " is private", Modifier.isPrivate(method.getModifiers()));
            }
        }
        Check.holds("the face is as due: " + got, due.equals(got));
        for (Class<?> type : all()) {
            for (Method method : type.getDeclaredMethods()) {
                boolean isFace = type == GoodsUnderWay.class && Modifier.isPublic(method.getModifiers());
                Check.holds(method + " has no name of the face", isFace || !names.contains(method.getName()));
                Check.holds(method + " has seven parameters at most", method.getParameterCount() <= 7);
            }
        }
        Check.holds("the class is public and final", GoodsUnderWay.class.getModifiers() == (Modifier.PUBLIC | Modifier.FINAL));
        Constructor<?>[] constructors = GoodsUnderWay.class.getDeclaredConstructors();
        Check.due("constructors", 1, constructors.length);
        Check.holds("its constructor is public", Modifier.isPublic(constructors[0].getModifiers()));
        Check.due("parameters of it", 0, constructors[0].getParameterCount());
    }

    private static String told(Method method) {
        List<String> types = new ArrayList<>();
        for (Class<?> type : method.getParameterTypes()) {
            types.add(type.getSimpleName());
        }
        return method.getReturnType().getSimpleName() + " " + method.getName() + "(" + String.join(",", types) + ")";
    }

    private static List<Class<?>> all() {
        List<Class<?>> list = new ArrayList<>();
        list.add(GoodsUnderWay.class);
        list.addAll(Arrays.asList(GoodsUnderWay.class.getDeclaredClasses()));
        return list;
    }

    private static void classes() {
        Check.holds("twelve classes at most", all().size() <= 12);
        for (Class<?> type : all()) {
            int fields = 0;
            for (Field field : type.getDeclaredFields()) {
                boolean isStatic = Modifier.isStatic(field.getModifiers());
                fields += isStatic ? 0 : 1;
                Check.holds(field + " is final if static", !isStatic || Modifier.isFinal(field.getModifiers()));
                Check.holds(field + " is private in the face's class",
                        type != GoodsUnderWay.class || Modifier.isPrivate(field.getModifiers()));
            }
            Check.holds(type + " has twenty fields at most", fields <= 20);
            boolean isNested = type != GoodsUnderWay.class;
            Check.holds(type + " is static and not public", !isNested || Modifier.isStatic(type.getModifiers())
                    && !Modifier.isPublic(type.getModifiers()) && !Modifier.isProtected(type.getModifiers()));
        }
    }

    private static void words(String text) {
        for (String word : FORBIDDEN) {
            String edge = word.matches("[\\w\\\\].*") ? "\\b" : "";
            Matcher matcher = Pattern.compile(edge + word).matcher(text);
            while (matcher.find()) {
                boolean isWhole = matcher.end() == text.length() || !word.matches("\\w+")
                        || !Character.isJavaIdentifierPart(text.charAt(matcher.end()));
                Check.holds("no '" + matcher.group() + "' in the file", !isWhole);
            }
        }
        Check.holds("no loop without a bound", !text.matches("(?s).*(while \\(true\\)|for \\(;|; ;).*"));
        Check.holds("no two-dimensional array of objects", !text.matches("(?s).*[A-Z]\\w*\\[\\]\\[\\].*"));
    }

    private static void methods(String text) {
        String[] lines = text.split("\n");
        Pattern begin = Pattern.compile("^(\\s+)[\\w\\[\\] ]+\\([^;]*$");
        int from = -1;
        String indent = "";
        for (int i = 0; i < lines.length; i++) {
            Matcher matcher = begin.matcher(lines[i]);
            if (from < 0 && matcher.find() && !lines[i].contains("class ")) {
                from = i;
                indent = matcher.group(1);
            } else if (from >= 0 && lines[i].equals(indent + "}")) {
                Check.holds("lines of the method at " + lines[from].trim(), i - from < 60);
                from = -1;
            }
        }
    }

    private static void signs(String text) {
        for (int i = 0; i < text.length(); i++) {
            if (text.charAt(i) > 126) {
                Check.holds("sign " + (int) text.charAt(i) + " in the file", false);
            }
        }
    }

    public static void main(String[] args) throws IOException {
        String text = Files.readString(FILE);
        face();
        classes();
        words(plain(text));
        methods(plain(text));
        signs(text);
        Check.end();
    }
}
