import java.lang.reflect.Method;
import java.lang.reflect.Modifier;
import java.nio.file.Files;
import java.nio.file.Path;
import java.util.ArrayList;
import java.util.List;
import java.util.TreeMap;
import java.util.TreeSet;
import java.util.regex.Matcher;
import java.util.regex.Pattern;
import java.util.stream.Stream;

/** What README.md shows is so: its calls answer what stands behind them, and its tables name what there is. */
public final class ReadmeTest {
    private static final Check check = new Check();
    private static final Pattern BLOCK = Pattern.compile("(?ms)^```java\\n(.*?)^```$");
    private static final Pattern NEW = Pattern.compile("DistrictCutter x = new DistrictCutter\\(\\);");
    private static final String NUMBER = "-?\\d+";
    private static final Pattern CALL = Pattern.compile("x\\.((\\w+)\\(((?:" + NUMBER + "(?:, " + NUMBER + ")*)?)\\));"
        + " +// (" + NUMBER + "|NONE|FULL|KIND|BIG|EMPTY)(?:: .+)?");

    public static void main(String[] args) throws Exception {
        String readme = Files.readString(Path.of("README.md"));
        TreeMap<String, Integer> face = face();
        TreeSet<String> shown = calls(readme, face);
        check.holds("calls that README.md does not show: " + without(face.keySet(), shown), shown.equals(face.keySet()));
        refusals(readme);
        tableNames(readme, "| test |", tests());
        tableNames(readme, "| class |", classesInside());
        howToRun(readme);
        check.end("ReadmeTest");
    }

    /** The public calls, each with how many numbers it takes. */
    private static TreeMap<String, Integer> face() {
        TreeMap<String, Integer> face = new TreeMap<>();
        for (Method m : DistrictCutter.class.getDeclaredMethods()) {
            if (Modifier.isPublic(m.getModifiers())) {
                face.put(m.getName(), m.getParameterCount());
            }
        }
        return face;
    }

    /** Makes all calls of all blocks, one behind the other: the names of those that were made. */
    private static TreeSet<String> calls(String readme, TreeMap<String, Integer> face) {
        TreeSet<String> shown = new TreeSet<>();
        DistrictCutter x = null;
        Matcher blocks = BLOCK.matcher(readme);
        while (blocks.find()) {
            for (String line : blocks.group(1).split("\n")) {
                Matcher call = CALL.matcher(line);
                if (NEW.matcher(line).matches()) {
                    x = new DistrictCutter();
                } else if (!call.matches()) {
                    check.holds("this line is a call with its answer: " + line, false);
                } else if (x == null) {
                    check.holds("an object is made ahead of: " + line, false);
                } else {
                    shown.add(call.group(2));
                    answers(x, call, face);
                }
            }
        }
        return shown;
    }

    private static void answers(DistrictCutter x, Matcher call, TreeMap<String, Integer> face) {
        String inside = call.group(3);
        int numbers = inside.isEmpty() ? 0 : inside.split(",").length;
        boolean isCall = face.getOrDefault(call.group(2), -1) == numbers;
        check.holds("the class has such a call: " + call.group(1), isCall);
        if (isCall) {
            check.due("README.md: " + call.group(1), Script.ask(x, call.group(1)), Script.number(call.group(4)));
        }
    }

    private static void refusals(String readme) throws Exception {
        for (String name : List.of("NONE", "FULL", "KIND", "BIG", "EMPTY")) {
            int value = DistrictCutter.class.getField(name).getInt(null);
            check.holds("README.md tells " + name, readme.contains("\n| `" + name + "` (" + value + ") |"));
        }
    }

    /** The names in a table's first column are just these. */
    private static void tableNames(String readme, String head, TreeSet<String> due) {
        TreeSet<String> got = new TreeSet<>();
        int start = readme.indexOf("\n" + head);
        check.holds("README.md has a table " + head, start >= 0);
        List<String> rows = new ArrayList<>(List.of(readme.substring(start + 1).split("\n")));
        for (int i = 2; i < rows.size() && rows.get(i).startsWith("|"); i++) {
            Matcher names = Pattern.compile("`(\\w+)`").matcher(rows.get(i).split("\\|")[1]);
            while (names.find()) {
                got.add(names.group(1));
            }
        }
        check.holds(head + " does not name " + without(due, got), without(due, got).isEmpty());
        check.holds(head + " names what is not there: " + without(got, due), without(got, due).isEmpty());
    }

    private static TreeSet<String> tests() throws Exception {
        TreeSet<String> tests = new TreeSet<>();
        try (Stream<Path> files = Files.list(Path.of("src/test/java"))) {
            files.map(file -> file.getFileName().toString()).filter(name -> name.endsWith("Test.java"))
                .forEach(name -> tests.add(name.replace(".java", "")));
        }
        return tests;
    }

    private static TreeSet<String> classesInside() {
        TreeSet<String> names = new TreeSet<>();
        for (Class<?> c : DistrictCutter.class.getDeclaredClasses()) {
            names.add(c.getSimpleName());
        }
        return names;
    }

    private static void howToRun(String readme) {
        check.holds("README.md says how to run the tests", readme.contains("\n```\nbash .ci/run\n```\n"));
        check.holds(".ci/run can be run", Files.isExecutable(Path.of(".ci/run")));
    }

    private static TreeSet<String> without(Iterable<String> all, TreeSet<String> these) {
        TreeSet<String> rest = new TreeSet<>();
        all.forEach(rest::add);
        rest.removeAll(these);
        return rest;
    }
}
