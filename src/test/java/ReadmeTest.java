import java.io.IOException;
import java.lang.reflect.Method;
import java.lang.reflect.Modifier;
import java.nio.file.Files;
import java.nio.file.Path;
import java.util.ArrayList;
import java.util.List;
import java.util.Set;
import java.util.TreeSet;
import java.util.regex.Matcher;
import java.util.regex.Pattern;

/** README.md against the class: its example answers what it says, its table has every call and no other. */
final class ReadmeTest {
    private ReadmeTest() {
    }

    public static void main(String[] args) throws IOException {
        String text = Files.readString(Path.of("README.md"));
        example(text);
        table(text);
        tests(text);
        Due.end();
    }

    private static void example(String text) {
        int begun = text.indexOf("```java\n") + "```java\n".length();
        List<String> lines = new ArrayList<>();
        for (String line : text.substring(begun, text.indexOf("```", begun)).split("\n")) {
            lines.add(line);
        }
        LowLand land = new LowLand();
        says(lines, 0, "LowLand land = new LowLand();");
        int ditch = land.ditch(4, 0, 40);
        says(lines, 1, "int ditch = land.ditch(4, 0, 40);", ditch);
        says(lines, 2, "land.band(ditch, 0, 8);", land.band(ditch, 0, 8));
        int pump = land.pump(ditch, LowLand.NONE, 8, 2, 0);
        says(lines, 3, "int pump = land.pump(ditch, LowLand.NONE, 8, 2, 0);", pump);
        says(lines, 4, "land.price(0, 9);", land.price(0, 9));
        says(lines, 5, "land.world();", land.world());
        says(lines, 6, "land.foretell(0, 1, 3);", land.foretell(0, 1, 3));
        says(lines, 7, "land.plan(3);", land.plan(3));
        says(lines, 8, "land.planned(3, 0);", land.planned(3, 0));
        says(lines, 9, "land.planned(3, 1);", land.planned(3, 1));
        says(lines, 10, "land.follow(3);", land.follow(3));
        says(lines, 11, "land.step(0);", land.step(0));
        says(lines, 12, "land.told(ditch, 1);", land.told(ditch, 1));
        says(lines, 13, "land.turn(pump, false);", land.turn(pump, false));
        Due.is("lines of the example", lines.size(), 14);
    }

    private static void says(List<String> lines, int at, String code) {
        String line = at < lines.size() ? lines.get(at) : "";
        Due.is("line " + at + " of the example is " + code, line.split("//")[0].strip().equals(code) ? 1 : 0, 1);
    }

    private static void says(List<String> lines, int at, String code, long answer) {
        says(lines, at, code);
        Matcher told = Pattern.compile("// (-?\\d+): ").matcher(at < lines.size() ? lines.get(at) : "");
        boolean found = told.find();
        Due.is("line " + at + " of the example tells an answer", found ? 1 : 0, 1);
        if (found) {
            Due.is(code, answer, Long.parseLong(told.group(1)));
        }
    }

    private static void table(String text) {
        Set<String> told = new TreeSet<>();
        Matcher rows = Pattern.compile("(?m)^\\| `(\\w+)\\(([^)]*)\\)` \\|").matcher(text);
        while (rows.find()) {
            String arguments = rows.group(2);
            told.add(rows.group(1) + " " + (arguments.isEmpty() ? 0 : arguments.split(",").length));
        }
        Set<String> are = new TreeSet<>();
        for (Method m : LowLand.class.getDeclaredMethods()) {
            if (Modifier.isPublic(m.getModifiers())) {
                are.add(m.getName() + " " + m.getParameterCount());
            }
        }
        Due.is("the calls of the table " + told, told.equals(are) ? 1 : 0, 1);
    }

    /** Every test of the project has a row. */
    private static void tests(String text) throws IOException {
        try (var files = Files.list(Path.of("src/test/java"))) {
            for (Path file : files.toList()) {
                String name = file.getFileName().toString().replace(".java", "");
                if (name.endsWith("Test")) {
                    Due.is("a row for " + name, text.contains("| `" + name + "` |") ? 1 : 0, 1);
                }
            }
        }
    }
}
