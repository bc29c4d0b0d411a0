import java.io.IOException;
import java.lang.reflect.Constructor;
import java.lang.reflect.Field;
import java.lang.reflect.Method;
import java.lang.reflect.Modifier;
import java.nio.charset.StandardCharsets;
import java.nio.file.Files;
import java.nio.file.Path;
import java.util.ArrayList;
import java.util.List;
import java.util.Set;
import java.util.TreeSet;
import java.util.regex.Matcher;
import java.util.regex.Pattern;

/** The face of the class, and what can be seen of LANGUAGE.md's rules in its source. */
public final class LanguageTest {
    private static final Due due = new Due();
    private static final String FACE = "act(int,int,int) alike(int) best(int) book(int) count(int) ever() expect(int,int)"
        + " feed(int,int) go(int) has(int,int) holder(int,int) holding(int) image() item(int,int,long)"
        + " judge(int,int,int) keep() looked(int,int) lot(int) mends(int) of(int,int) pay() read(int,int) rounds(int)"
        + " row(int,int,int) set(int,int) shift(int,int,int,int,int) swaps() taken(int,int) tape(int,int,int)"
        + " told(int,int,int,int,int) trace(int) undo() valley() worth(int,int,int) would(int,int,int)";

    public static void main(String[] args) throws IOException {
        Path root = Path.of(args.length > 0 ? args[0] : ".");
        String source = Files.readString(root.resolve("src/main/java/ByLot.java"), StandardCharsets.UTF_8);
        due.holds("ASCII alone", source.chars().allMatch(c -> c == '\n' || c >= 32 && c < 127));
        face();
        constants();
        classes();
        words(source.replaceAll("(?s)/\\*.*?\\*/", "").replaceAll("//[^\n]*", ""));
        methodsAreShort(source);
        due.end("LanguageTest");
    }

    private static void face() {
        Set<String> open = new TreeSet<>();
        Set<String> names = new TreeSet<>();
        for (Method m : ByLot.class.getDeclaredMethods()) {
            if (Modifier.isPublic(m.getModifiers())) {
                open.add(signature(m));
                names.add(m.getName());
                due.holds(m + " is no long", m.getReturnType() == (m.getName().matches("expect|read") ? long.class : int.class));
            } else {
                due.holds(m + " is private", Modifier.isPrivate(m.getModifiers()));
            }
        }
        due.holds("the face: " + open, String.join(" ", open).equals(FACE));
        for (Class<?> c : all()) {
            for (Method m : c.getDeclaredMethods()) {
                due.holds(m + " at most seven parameters", m.getParameterCount() <= 7);
                due.holds(m + " has a name of its own", Modifier.isPublic(m.getModifiers()) || !names.contains(m.getName()));
                due.holds(m + " is none of Object's", !m.getName().matches("equals|hashCode|toString"));
            }
        }
        Constructor<?>[] constructors = ByLot.class.getDeclaredConstructors();
        due.is("constructors", constructors.length, 1);
        due.is("its parameters", constructors[0].getParameterCount(), 0);
        due.holds("final", Modifier.isFinal(ByLot.class.getModifiers()));
    }

    private static String signature(Method m) {
        List<String> types = new ArrayList<>();
        for (Class<?> type : m.getParameterTypes()) {
            types.add(type.getName());
        }
        return m.getName() + "(" + String.join(",", types) + ")";
    }

    private static void constants() {
        due.is("NONE", ByLot.NONE, -1);
        due.is("BAD", ByLot.BAD, -2);
        due.is("STATE", ByLot.STATE, -3);
        due.is("FULL", ByLot.FULL, -4);
        due.is("NO", ByLot.NO, Long.MIN_VALUE);
        int open = 0;
        for (Field f : ByLot.class.getDeclaredFields()) {
            open += Modifier.isPrivate(f.getModifiers()) ? 0 : 1;
        }
        due.is("constants", open, 5);
    }

    private static List<Class<?>> all() {
        List<Class<?>> list = new ArrayList<>(List.of(ByLot.class.getDeclaredClasses()));
        list.add(ByLot.class);
        return list;
    }

    private static void classes() {
        due.holds("some twelve classes", all().size() <= 12);
        for (Class<?> c : all()) {
            due.holds(c + " is static", c == ByLot.class || Modifier.isStatic(c.getModifiers()));
            due.holds(c + " is hidden", c == ByLot.class || !Modifier.isPublic(c.getModifiers()));
            int fields = 0;
            for (Field f : c.getDeclaredFields()) {
                boolean fixed = Modifier.isStatic(f.getModifiers());
                fields += fixed ? 0 : 1;
                due.holds(f + " is final", !fixed || Modifier.isFinal(f.getModifiers()));
            }
            due.holds(c + " has some twenty fields", fields <= 20);
        }
    }

    private static void words(String code) {
        String bare = code.replaceAll("\"(\\\\.|[^\"\\\\])*\"", "\"\"");
        for (String word : new String[] {"throw", "throws", "try", "catch", "synchronized", "assert", "package",
            "volatile", "native", "protected", "double", "float", "System\\.(?!arraycopy)", "Exact", "Random",
            "Thread", "static \\{", "->", "::", "@"}) {
            due.holds("no " + word, !Pattern.compile("(?<![A-Za-z])" + word + "(?![A-Za-z])").matcher(bare).find());
        }
        Matcher imports = Pattern.compile("import ([a-zA-Z.]+);").matcher(bare);
        while (imports.find()) {
            due.holds(imports.group(1), imports.group(1).equals("java.util.Arrays"));
        }
        Matcher calls = Pattern.compile("\\b(Math|Integer|Long|Arrays|System)\\.([A-Za-z_]+)").matcher(bare);
        while (calls.find()) {
            due.holds(calls.group(), calls.group().matches(
                "Math\\.(max|min|abs|floorMod|floorDiv)|Integer\\.(compare|bitCount)|Long\\.MIN_VALUE|Arrays\\.fill|System\\.arraycopy"));
        }
    }

    private static void methodsAreShort(String source) {
        int from = 0;
        String head = "";
        for (String line : source.split("\n")) {
            from++;
            if (line.matches(" {4,8}[a-zA-Z].*\\) \\{")) {
                head = line;
                from = 0;
            } else if (line.matches(" {4,8}\\}") && !head.isEmpty()) {
                due.holds(head.trim() + " is short", from <= 60);
                head = "";
            }
        }
    }
}
