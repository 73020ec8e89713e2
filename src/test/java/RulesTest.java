import java.io.IOException;
import java.lang.reflect.Constructor;
import java.lang.reflect.Field;
import java.lang.reflect.Method;
import java.lang.reflect.Modifier;
import java.nio.file.Files;
import java.nio.file.Path;
import java.util.Arrays;
import java.util.Set;
import java.util.TreeSet;
import java.util.regex.Matcher;
import java.util.regex.Pattern;

/** The document's face, and those rules of ../shared/LANGUAGE.md that can be seen in the text of the class. */
final class RulesTest {
    private static final String[] FACE = {"int ditch(int,int,int)", "int band(int,int,int)", "int told(int,int)",
        "int weir(int,int,int,int)", "int pump(int,int,int,int,int)", "int sluice(int,int)", "int turn(int,boolean)",
        "int open(int,boolean)", "int tide(int,int)", "int price(int,int)", "int step(int)", "int passed(int,int)",
        "int world()", "int foretell(int,int,int)", "int plan(int)", "long planned(int,int)", "long judge(int,int,int)",
        "int follow(int)", "int sheet(int,int,int)", "int lay(int,int,int)", "int rain(int,int,int,int)",
        "int tides(int,int,int)", "int count(int)"};
    private static final Set<String> CONSTANTS = Set.of("BAD", "STATE", "FULL", "NONE");
    private static final String[] FORBIDDEN = {"throw", "throws", "try", "catch", "finally", "synchronized", "assert",
        "package", "instanceof", "native", "volatile", "transient", "Object", "MAX_VALUE", "System\\.out", "System\\.nanoTime",
        "Thread", "Random", "->", "::", "\\w+Exact\\b", "static \\{"};

    /** What the class takes from the library; each stands in rule 4. */
    private static final Set<String> LIBRARY = Set.of("Arrays.fill", "System.arraycopy", "Math.max", "Math.min",
        "Math.floorMod", "Integer.bitCount");

    private RulesTest() {
    }

    public static void main(String[] args) throws IOException {
        face();
        nested();
        String text = bare(Files.readString(Path.of("src/main/java/LowLand.java")));
        words(text);
        library(text);
        parts(Files.readString(Path.of("src/main/java/LowLand.java")));
        Due.end();
    }

    private static boolean isHidden(int modifiers) {
        return Modifier.isPrivate(modifiers);
    }

    private static void face() {
        Set<String> got = new TreeSet<>();
        for (Method m : LowLand.class.getDeclaredMethods()) {
            if (isHidden(m.getModifiers())) {
                continue;
            }
            Due.is(m + " is public, no more", m.getModifiers(), Modifier.PUBLIC);
            StringBuilder text = new StringBuilder(m.getReturnType() + " " + m.getName() + "(");
            for (Class<?> type : m.getParameterTypes()) {
                text.append(text.charAt(text.length() - 1) == '(' ? "" : ",").append(type);
            }
            got.add(text + ")");
        }
        Due.is("the face " + got, got.equals(new TreeSet<>(Arrays.asList(FACE))) ? 1 : 0, 1);
        for (Field f : LowLand.class.getDeclaredFields()) {
            Due.is(f + " is hidden", isHidden(f.getModifiers()) ? 1 : 0, CONSTANTS.contains(f.getName()) ? 0 : 1);
        }
        Constructor<?>[] made = LowLand.class.getDeclaredConstructors();
        Due.is("constructors", made.length, 1);
        Due.is("a public one without arguments", made[0].getModifiers() + made[0].getParameterCount(), Modifier.PUBLIC);
        Due.is("public and final", LowLand.class.getModifiers(), Modifier.PUBLIC | Modifier.FINAL);
    }

    private static void nested() {
        Set<String> names = new TreeSet<>();
        for (String line : FACE) {
            names.add(line.substring(line.indexOf(' ') + 1, line.indexOf('(')));
        }
        Class<?>[] inside = LowLand.class.getDeclaredClasses();
        Due.is("classes", inside.length < 12 ? 1 : 0, 1);
        for (Class<?> c : inside) {
            Due.is(c + " is static", Modifier.isStatic(c.getModifiers()) ? 1 : 0, 1);
            Due.is(c + " is not public", c.getModifiers() & (Modifier.PUBLIC | Modifier.PROTECTED), 0);
            for (Method m : c.getDeclaredMethods()) {
                Due.is(m + " has a name of its own", names.contains(m.getName()) ? 1 : 0, 0);
                Due.is(m + " parameters", m.getParameterCount() <= 7 ? 1 : 0, 1);
            }
            int fields = 0;
            for (Field f : c.getDeclaredFields()) {
                boolean fixed = Modifier.isStatic(f.getModifiers());
                fields += fixed ? 0 : 1;
                Due.is(f + " static and final", !fixed || Modifier.isFinal(f.getModifiers()) ? 1 : 0, 1);
            }
            Due.is(c + " fields", fields <= 20 ? 1 : 0, 1);
        }
    }

    /** The text without its comments. */
    private static String bare(String text) {
        return text.replaceAll("(?s)/\\*.*?\\*/", "").replaceAll("//[^\n]*", "");
    }

    private static void words(String text) {
        for (String word : FORBIDDEN) {
            String whole = Character.isLetter(word.charAt(0)) && !word.contains("{") ? "\\b" + word + "\\b" : word;
            Due.is("the word " + word, Pattern.compile(whole).matcher(text).find() ? 1 : 0, 0);
        }
        Matcher imports = Pattern.compile("import ([^;]*);").matcher(text);
        while (imports.find()) {
            Due.is("import " + imports.group(1), imports.group(1).equals("java.util.Arrays") ? 1 : 0, 1);
        }
        int longest = 0, begun = -1, at = 0;
        for (String line : text.split("\n")) {
            at++;
            if (line.matches(" {4,8}(public|private)[^=;]*\\{") && !line.contains(" class ")) {
                begun = at;
            } else if (begun >= 0 && line.matches(" {4,8}\\}")) {
                longest = Math.max(longest, at - begun);
            }
        }
        Due.is("methods were found", longest > 5 ? 1 : 0, 1);
        Due.is("the longest method", longest <= 60 ? 1 : 0, 1);
    }

    private static void library(String text) {
        Matcher calls = Pattern.compile("\\b([A-Z][A-Za-z]*\\.[a-z]\\w*)\\b").matcher(text.replaceAll("import [^;]*;", ""));
        int found = 0;
        while (calls.find()) {
            found++;
            Due.is(calls.group(1) + " may be used", LIBRARY.contains(calls.group(1)) ? 1 : 0, 1);
        }
        Due.is("uses of the library were found", found > 5 ? 1 : 0, 1);
        Due.is("no text is joined or made", text.contains("\"") ? 1 : 0, 0);
        Due.is("calls make no objects, constructors alone do", madeOutsideConstructors(text), 0);
    }

    /** How many lines with "new" are neither fields nor in a constructor. */
    private static int madeOutsideConstructors(String text) {
        int made = 0;
        boolean constructor = false;
        for (String line : text.split("\n")) {
            if (line.matches(" {4,8}(public|private) [A-Z]\\w*\\(.*\\{")) {
                constructor = true;
            } else if (line.matches(" {4,8}\\}")) {
                constructor = false;
            }
            made += line.matches(".*\\bnew\\b.*") && !constructor && !line.matches(" +private final .*;") ? 1 : 0;
        }
        return made;
    }

    /** "Ahead of the calls .. the interface says": the names of the two parts stand where the document puts them. */
    private static void parts(String whole) {
        int plans = whole.indexOf("// ---- worlds, plans");
        int sheets = whole.indexOf("// ---- sheets");
        Due.is("passed, then worlds, plans", whole.indexOf("public int passed(") < plans ? 1 : 0, 1);
        Due.is("worlds, plans, then world", plans < whole.indexOf("public int world(") ? 1 : 0, 1);
        Due.is("follow, then sheets", whole.indexOf("public int follow(") < sheets ? 1 : 0, 1);
        Due.is("sheets, then sheet", sheets < whole.indexOf("public int sheet(") ? 1 : 0, 1);
        Due.is("both parts", Math.min(plans, sheets) > 0 ? 1 : 0, 1);
    }
}
