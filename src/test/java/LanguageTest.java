import java.lang.reflect.Field;
import java.lang.reflect.Method;
import java.lang.reflect.Modifier;
import java.nio.file.Files;
import java.nio.file.Path;
import java.util.ArrayList;
import java.util.List;
import java.util.TreeSet;
import java.util.regex.Matcher;
import java.util.regex.Pattern;

/** The face of the document, and those rules of LANGUAGE.md that a look at the program can tell. */
public final class LanguageTest {
    private static final Check check = new Check();
    private static final String FACE = "place/5 border/3 law/2 keep/2 cuts/1 fix/2 people/2 put/2 at/1 lawful/0 why/1 "
        + "measure/1 district/2 land/1 count/0 kth/1 which/0 same/1 least/1 among/2 step/1 walk/3 seen/1 better/0 mend/1";

    public static void main(String[] args) throws Exception {
        String source = Files.readString(Path.of("src/main/java/DistrictCutter.java"));
        face();
        faceOfTheDocument(source);
        classesInside();
        words(source);
        check.end("LanguageTest");
    }

    private static void face() {
        TreeSet<String> due = new TreeSet<>(List.of(FACE.split(" ")));
        TreeSet<String> got = new TreeSet<>();
        for (Method m : DistrictCutter.class.getDeclaredMethods()) {
            if (!Modifier.isPrivate(m.getModifiers())) {
                got.add(m.getName() + "/" + m.getParameterCount());
                check.holds(m + " is public and answers an int",
                    Modifier.isPublic(m.getModifiers()) && m.getReturnType() == int.class);
            }
        }
        check.holds("the face is " + due + ", not " + got, due.equals(got));
        TreeSet<String> constants = new TreeSet<>();
        for (Field f : DistrictCutter.class.getDeclaredFields()) {
            if (!Modifier.isPrivate(f.getModifiers())) {
                constants.add(f.getName());
            }
        }
        check.holds("constants", constants.equals(new TreeSet<>(List.of("NONE", "FULL", "KIND", "BIG", "EMPTY"))));
        check.due("NONE", DistrictCutter.NONE, -1);
        check.due("FULL", DistrictCutter.FULL, -2);
        check.due("KIND", DistrictCutter.KIND, -3);
        check.due("BIG", DistrictCutter.BIG, -4);
        check.due("EMPTY", DistrictCutter.EMPTY, -5);
        check.holds("final", Modifier.isFinal(DistrictCutter.class.getModifiers()));
    }

    /** Each line of the document's face stands in the program, with the names of what a call takes. */
    private static void faceOfTheDocument(String source) throws Exception {
        Path document = Path.of("../shared/DOC.md");
        if (!Files.isReadable(document)) {
            System.out.println(document + " is not there: its face is not looked up");
            return;
        }
        Matcher block = Pattern.compile("(?s)## The public face\\s+```java\n(.*?)```").matcher(Files.readString(document));
        boolean found = block.find();
        check.holds("the document has a face", found);
        int calls = 0;
        for (String line : (found ? block.group(1) : "").split("\n")) {
            boolean isCall = line.endsWith(");");
            calls += isCall ? 1 : 0;
            String due = isCall ? line.substring(0, line.length() - 1) + " {" : line;
            check.holds("the program has the line: " + due, ("\n" + source).contains("\n" + due + "\n"));
        }
        check.due("calls and constructors of the document's face", calls, FACE.split(" ").length + 1);
    }

    private static void classesInside() {
        List<Class<?>> all = new ArrayList<>(List.of(DistrictCutter.class.getDeclaredClasses()));
        for (Class<?> c : all) {
            check.holds(c + " is static and not public",
                Modifier.isStatic(c.getModifiers()) && !Modifier.isPublic(c.getModifiers()));
        }
        all.add(DistrictCutter.class);
        check.holds("at most twelve classes", all.size() <= 12);
        for (Class<?> c : all) {
            int fields = 0;
            for (Field f : c.getDeclaredFields()) {
                boolean isStatic = Modifier.isStatic(f.getModifiers());
                fields += isStatic ? 0 : 1;
                check.holds(f + ": a static field is final", !isStatic || Modifier.isFinal(f.getModifiers()));
            }
            check.holds(c + " has at most twenty fields", fields <= 20);
            for (Method m : c.getDeclaredMethods()) {
                check.holds(m + " takes at most seven", m.getParameterCount() <= 7);
                boolean isFace = c == DistrictCutter.class && Modifier.isPublic(m.getModifiers());
                check.holds(m + " bears no name of the face", isFace || !(" " + FACE).contains(" " + m.getName() + "/"));
            }
        }
    }

    private static void words(String source) {
        String code = source.replaceAll("(?s)/\\*.*?\\*/", " ").replaceAll("//[^\n]*", " ");
        String[] barred = {"\\bthrows?\\b", "\\btry\\b", "\\bcatch\\b", "\\bsynchronized\\b", "\\bassert\\b", "->", "::",
            "\\bSystem\\.(?!arraycopy\\b)", "\\bpackage\\b", "\\bfloat\\b", "\\bdouble\\b", "Exact\\b", "\\bThread\\b",
            "\\bRandom\\b", "\\btrue\\s*\\)\\s*\\{", "\\bObject\\b", "\\bhashCode\\b", "\\btoString\\b", "static\\s*\\{"};
        for (String word : barred) {
            Matcher found = Pattern.compile(word).matcher(code);
            check.holds("the program has no " + word, !found.find());
        }
        Matcher imports = Pattern.compile("import ([^;]+);").matcher(code);
        while (imports.find()) {
            check.holds("import " + imports.group(1), imports.group(1).equals("java.util.Arrays"));
        }
        Matcher library = Pattern.compile("\\b(Integer|Math|Arrays|System)\\.(\\w+)").matcher(code);
        List<String> known = List.of("bitCount", "compare", "MAX_VALUE", "max", "min", "abs", "fill", "arraycopy");
        while (library.find()) {
            check.holds("library: " + library.group(), known.contains(library.group(2)));
        }
        methodsAreShort(source);
    }

    /** A method's end is the first closing brace at the depth of its head. */
    private static void methodsAreShort(String source) {
        String[] lines = source.split("\n");
        int head = -1;
        String end = "";
        for (int i = 0; i < lines.length; i++) {
            Matcher m = Pattern.compile("^( {4}| {8})[\\w\\[\\] ]+\\([^;]*\\) \\{$").matcher(lines[i]);
            if (m.find()) {
                head = i;
                end = m.group(1) + "}";
            } else if (head >= 0 && lines[i].equals(end)) {
                check.holds(lines[head].trim() + " is short", i - head <= 60);
                head = -1;
            }
        }
    }
}
