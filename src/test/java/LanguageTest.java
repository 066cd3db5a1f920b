import java.lang.reflect.Field;
import java.lang.reflect.Method;
import java.lang.reflect.Modifier;
import java.nio.charset.StandardCharsets;
import java.nio.file.Files;
import java.nio.file.Path;
import java.util.ArrayList;
import java.util.List;
import java.util.Set;
import java.util.TreeSet;
import java.util.regex.Matcher;
import java.util.regex.Pattern;

/**
 * What ../shared/LANGUAGE.md asks of src/main/java/WheelShop.java, as far as it can be seen from the
 * text and from the compiled classes; narrower than the rules, where the class needs less than they
 * leave (it asks the library for nothing but Math).
 */
public final class LanguageTest {
    private static final Check CHECK = new Check("LanguageTest");
    private static final Path SOURCE = Path.of("src/main/java/WheelShop.java");
    private static final int MOST_LINES = 60;
    private static final int MOST_PARAMETERS = 7;
    private static final int MOST_CLASSES = 12;
    private static final int MOST_FIELDS = 20;

    /** Words of Java that rules 1, 2, 4 and 6 leave out, and those that this class has no need of. */
    private static final Set<String> NOT_HERE = Set.of("package", "import", "protected", "throw", "throws", "try",
        "catch", "finally", "synchronized", "assert", "volatile", "transient", "native", "strictfp", "instanceof",
        "yield", "var", "goto", "extends", "implements", "Object", "Thread", "Runtime", "Random", "Exception",
        "getClass", "equals", "hashCode", "toString", "super", "double", "float");

    public static void main(String[] args) throws Exception {
        String text = new String(Files.readAllBytes(SOURCE), StandardCharsets.ISO_8859_1);
        String code = withoutComments(text);
        signs(text);
        words(code);
        asksOfTheLibrary(code);
        shortMethods(code);
        List<Class<?>> classes = classes();
        for (Class<?> each : classes) {
            fields(each);
            methods(each);
        }
        CHECK.holds("11: classes", classes.size() <= MOST_CLASSES);
        everyCallEnds();
        CHECK.end();
    }

    private static String withoutComments(String text) {
        return text.replaceAll("(?s)/\\*.*?\\*/", "").replaceAll("//[^\n]*", "");
    }

    private static void signs(String text) {
        for (int i = 0; i < text.length(); i++) {
            char sign = text.charAt(i);
            CHECK.holds("a sign of 1 to 127", sign == '\n' || sign >= ' ' && sign <= '~');
        }
    }

    private static void words(String code) {
        Matcher word = Pattern.compile("[A-Za-z_]\\w*").matcher(code);
        while (word.find()) {
            CHECK.holds("6: the word " + word.group(), !NOT_HERE.contains(word.group()));
        }
        CHECK.holds("2: no lambda", !code.contains("->"));
        CHECK.holds("2: no method reference", !code.contains("::"));
        CHECK.holds("no annotation", !code.contains("@"));
        CHECK.holds("no text", !code.contains("\""));
        CHECK.holds("6: no cast", !Pattern.compile("\\([A-Za-z]+\\)\\s*[A-Za-z(]").matcher(code).find());
        CHECK.holds("9: no loop without its end in sight", !Pattern.compile("\\bdo\\b|while \\(true|for \\(;").matcher(code).find());
        CHECK.holds("5: no static initialiser", !Pattern.compile("static\\s*\\{").matcher(code).find());
    }

    /** Rule 4: after a name with a large first letter and a dot stands a constant or one of Math's. */
    private static void asksOfTheLibrary(String code) {
        Set<String> own = new TreeSet<>();
        for (Class<?> each : classes()) {
            own.add(each.getSimpleName());
        }
        Matcher asked = Pattern.compile("\\b([A-Z]\\w*)\\.(\\w+)(\\(?)").matcher(code);
        while (asked.find()) {
            boolean math = asked.group(1).equals("Math") && Set.of("min", "max", "abs").contains(asked.group(2));
            boolean constant = own.contains(asked.group(1)) && asked.group(3).isEmpty() && asked.group(2).matches("[A-Z_]+");
            CHECK.holds("4: " + asked.group(), math || constant);
        }
        Matcher made = Pattern.compile("\\bnew (\\w+)").matcher(code);
        while (made.find()) {
            CHECK.holds("4: new " + made.group(1), own.contains(made.group(1)) || made.group(1).equals("int"));
        }
        Matcher rows = Pattern.compile("new \\w+\\[([^\\]]*)\\]").matcher(code);
        while (rows.find()) {
            CHECK.holds("12: a row of " + rows.group(1), rows.group(1).matches("[A-Z_]+( \\+ 1)?"));
        }
    }

    /** Rule 11: a method begins at the margin of its class's members and ends where that comes again. */
    private static void shortMethods(String code) {
        String[] lines = code.split("\n");
        for (int margin = 4; margin <= 8; margin += 4) {
            String before = " ".repeat(margin);
            int begun = -1;
            for (int i = 0; i < lines.length; i++) {
                boolean opens = lines[i].matches(before + "[a-z].*\\(.*") && !lines[i].endsWith(";");
                if (opens) {
                    begun = i;
                }
                if (begun >= 0 && lines[i].equals(before + "}")) {
                    CHECK.holds("11: lines of " + lines[begun].trim(), i - begun < MOST_LINES);
                    begun = -1;
                }
            }
        }
    }

    private static List<Class<?>> classes() {
        List<Class<?>> classes = new ArrayList<>(List.of(WheelShop.class.getDeclaredClasses()));
        for (Class<?> each : classes) {
            int modifiers = each.getModifiers();
            CHECK.holds("1: " + each + " is its own", !Modifier.isPublic(modifiers) && !Modifier.isProtected(modifiers));
            CHECK.holds("2: " + each + " is static", Modifier.isStatic(modifiers));
            CHECK.due("2: classes in " + each, each.getDeclaredClasses().length, 0);
        }
        classes.add(WheelShop.class);
        return classes;
    }

    /** Rules 3, 5 and 11. */
    private static void fields(Class<?> each) {
        int held = 0;
        for (Field field : each.getDeclaredFields()) {
            Class<?> type = field.getType();
            Class<?> plain = type.isArray() ? type.getComponentType() : type;
            CHECK.holds("3: " + field, plain == int.class || plain == long.class || classes().contains(plain));
            if (Modifier.isStatic(field.getModifiers())) {
                CHECK.holds("5: " + field, Modifier.isFinal(field.getModifiers()) && !classes().contains(plain));
            } else {
                held++;
            }
        }
        CHECK.holds("11: fields of " + each, held <= MOST_FIELDS);
    }

    /** Rules 1, 2 and 11: no other method bears a public one's name, and none was made of a lambda. */
    private static void methods(Class<?> each) {
        Set<String> face = new TreeSet<>();
        for (Method method : WheelShop.class.getDeclaredMethods()) {
            if (Modifier.isPublic(method.getModifiers())) {
                face.add(method.getName());
            }
        }
        for (Method method : each.getDeclaredMethods()) {
            boolean asked = each == WheelShop.class && Modifier.isPublic(method.getModifiers());
            CHECK.holds("1: the name of " + method, asked || !face.contains(method.getName()));
            CHECK.holds("2: " + method + " is written out", !method.isSynthetic());
            CHECK.holds("11: parameters of " + method, method.getParameterCount() <= MOST_PARAMETERS);
        }
    }

    /** Rule 7: whatever is asked, and however often; what comes after an object's 512th call is free, but comes. */
    private static void everyCallEnds() throws Exception {
        int[] numbers = {0, 1, 2, 3, 5, 15, 16, 99, 500, 999, 4000, 6000, 7000, 7004, 9200, -1, -1000000,
            Integer.MIN_VALUE, Integer.MAX_VALUE};
        WheelShop x = new WheelShop();
        List<Method> calls = new ArrayList<>();
        for (Method method : WheelShop.class.getDeclaredMethods()) {
            if (Modifier.isPublic(method.getModifiers())) {
                calls.add(method);
            }
        }
        calls.sort((a, b) -> a.getName().compareTo(b.getName()));
        int answers = 0;
        for (int n = 0; n < 200000; n++) {
            Method call = calls.get(n % calls.size());
            Object[] with = new Object[call.getParameterCount()];
            int mixed = (int) (n * 2654435761L >>> 7 & 0xffffff);
            for (int i = 0; i < with.length; i++) {
                with[i] = numbers[mixed % numbers.length];
                mixed /= numbers.length;
            }
            call.invoke(x, with);
            answers++;
        }
        CHECK.due("7: answers", answers, 200000);
    }
}
