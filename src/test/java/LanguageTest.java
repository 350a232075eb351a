import java.io.IOException;
import java.lang.reflect.Constructor;
import java.lang.reflect.Field;
import java.lang.reflect.Method;
import java.lang.reflect.Modifier;
import java.nio.charset.StandardCharsets;
import java.nio.file.Files;
import java.nio.file.Path;
import java.util.ArrayList;
import java.util.HashSet;
import java.util.List;
import java.util.Set;
import java.util.regex.Matcher;
import java.util.regex.Pattern;

/** The rules of ../shared/LANGUAGE.md that a look at the file or at the compiled classes can tell. */
public final class LanguageTest {
    private static final Due due = new Due("LanguageTest");
    private static final String FACE = "pass(int) road(int,int,int) far(int,int,int) shop(int,int) pays(int,int) "
        + "frame(int,int,int,int) frameTold(int,int) mend(int,int) keeps(int) earns(int) feed(int,long) text() "
        + "force(int) says(int,int) raid(int,int) pattern(int) left() form(int) sends(int) person(int) "
        + "seen(int,int,int,int) canBe(int,int,int,int) suspects(int,int) word(int,int,int,int) falseWords(int) "
        + "paid(int,int,int) held(int) hangs(int,int) meeting(int,int,int) taker(int,int) sworn(int,int) began() "
        + "parties(int,int,int,int) clause(int,int) against(int,int) offer(int,int) row(long) plan(int,int) count(int) "
        + "sheet(int,int,int) cell(int,int,int) copy(int,int,int,int,int) paysRow(int,int,int,int) taken(int,int)";
    private static final Set<String> LONGS = Set.of("frameTold", "earns", "says", "paid");

    public static void main(String[] args) throws IOException {
        String source = Files.readString(Path.of("src/main/java/FrameCounty.java"), StandardCharsets.ISO_8859_1);
        String code = withoutTexts(source);
        words(source, code);
        methodsAreShort(code);
        face();
        classesInside();
        callsMakeNothing(code);
        due.end();
    }

    private static String withoutTexts(String source) {
        return source.replaceAll("(?s)/\\*.*?\\*/", "").replaceAll("//[^\n]*", "")
            .replaceAll("\"(\\\\.|[^\"\\\\])*\"", "\"\"").replaceAll("'(\\\\.|[^'\\\\])'", "' '");
    }

    private static void words(String source, String code) {
        for (String word : new String[] {"throw", "throws", "try", "catch", "finally", "synchronized", "assert", "package",
            "instanceof", "volatile", "transient", "native", "double", "float", "System\\.out", "currentTimeMillis",
            "nanoTime", "Random", "Thread", "Exact", "hashCode", "equals", "toString", "var"}) {
            due.holds("no " + word, !Pattern.compile("\\b" + word + "\\b").matcher(code).find());
        }
        due.holds("no Exact function", !code.contains("Exact("));
        due.holds("no lambda", !code.contains("->"));
        due.holds("no method reference", !code.contains("::"));
        due.holds("signs of 1 to 127 alone", source.chars().allMatch(c -> c > 0 && c < 128));
        Matcher imports = Pattern.compile("import ([^;]+);").matcher(code);
        while (imports.find()) {
            due.holds("import " + imports.group(1), List.of("java.util.Arrays", "java.util.ArrayList", "java.util.List",
                "java.util.Iterator").contains(imports.group(1)));
        }
        Matcher calls = Pattern.compile("\\b(Arrays|System|Integer|Long|Math)\\.(\\w+)").matcher(code);
        while (calls.find()) {
            due.holds("library " + calls.group(), Set.of("Arrays.fill", "System.arraycopy", "Integer.bitCount", "Math.min",
                "Math.max", "Math.abs").contains(calls.group()));
        }
        for (String head : new String[] {"shops, frames", "texts", "raids", "persons, words, oaths",
            "soldiers, offers, weeks", "the host"}) {
            due.holds("head " + head, source.contains("// ---- " + head + "\n"));
        }
    }

    private static void methodsAreShort(String code) {
        String[] lines = code.split("\n");
        int from = -1;
        String end = "";
        for (int i = 0; i < lines.length; i++) {
            String line = lines[i];
            if (line.matches(" +[^=.]*\\) \\{") && !line.matches(" +(\\} else )?(if|for|while|switch) .*") && from < 0) {
                from = i;
                end = line.substring(0, line.length() - line.stripLeading().length()) + "}";
            } else if (from >= 0 && line.equals(end)) {
                due.holds("at most 60 lines: " + lines[from].strip(), i - from < 60);
                from = -1;
            }
        }
    }

    private static void face() {
        Class<?> type = FrameCounty.class;
        due.is("public and final", type.getModifiers() & (Modifier.PUBLIC | Modifier.FINAL), Modifier.PUBLIC | Modifier.FINAL);
        due.is("constructors", type.getDeclaredConstructors().length, 1);
        due.holds("its constructor is public", Modifier.isPublic(type.getDeclaredConstructors()[0].getModifiers()));
        Set<String> found = new HashSet<>();
        for (Method m : type.getDeclaredMethods()) {
            if (Modifier.isPublic(m.getModifiers())) {
                String all = m.toString();
                found.add(m.getName() + all.substring(all.lastIndexOf('(')));
                String answer = LONGS.contains(m.getName()) ? "long" : "int";
                due.holds(m.getName() + " answers " + answer, m.getReturnType().getName().equals(answer));
                due.holds(m.getName() + " is no static one", !Modifier.isStatic(m.getModifiers()));
            } else {
                due.holds("private: " + m, Modifier.isPrivate(m.getModifiers()) || m.isSynthetic());
            }
        }
        due.holds("the face is " + found, found.equals(Set.of(FACE.split(" "))));
        for (Field f : type.getDeclaredFields()) {
            boolean told = Set.of("NONE", "BAD", "STATE", "FULL", "NO").contains(f.getName());
            due.holds("field " + f, told ? Modifier.isPublic(f.getModifiers()) : Modifier.isPrivate(f.getModifiers()));
        }
    }

    private static void classesInside() {
        Set<String> face = new HashSet<>();
        for (String call : FACE.split(" ")) {
            face.add(call.substring(0, call.indexOf('(')));
        }
        List<Class<?>> all = new ArrayList<>(List.of(FrameCounty.class.getDeclaredClasses()));
        due.holds("at most twelve classes", all.size() < 12);
        for (Class<?> inside : all) {
            due.holds(inside + " is static and not public",
                Modifier.isStatic(inside.getModifiers()) && !Modifier.isPublic(inside.getModifiers()));
            for (Method m : inside.getDeclaredMethods()) {
                due.holds(inside + " has no method " + m.getName(), !face.contains(m.getName()));
            }
            due.is("classes inside " + inside, inside.getDeclaredClasses().length, 0);
        }
        all.add(FrameCounty.class);
        for (Class<?> each : all) {
            fieldsAndNumbers(each);
        }
    }

    private static void fieldsAndNumbers(Class<?> type) {
        int fields = 0;
        for (Field f : type.getDeclaredFields()) {
            if (Modifier.isStatic(f.getModifiers())) {
                due.holds("final: " + f, Modifier.isFinal(f.getModifiers()));
                due.holds("a constant: " + f, Set.of("int", "long", "[I").contains(f.getType().getName()));
            } else {
                fields++;
            }
        }
        due.holds("at most twenty fields: " + type + " has " + fields, fields <= 20);
        for (Method m : type.getDeclaredMethods()) {
            due.holds("at most seven parameters: " + m, m.getParameterCount() <= 7);
        }
        for (Constructor<?> c : type.getDeclaredConstructors()) {
            due.holds("at most seven parameters: " + c, c.getParameterCount() <= 7);
        }
    }

    /** All that a run makes is made by the constructor: its calls make no object. */
    private static void callsMakeNothing(String code) {
        for (Matcher m = Pattern.compile("(?m)^( *)(.*\\bnew\\b.*)$").matcher(code); m.find();) {
            due.holds("made in a constructor or as a field: " + m.group(2), m.group(2).contains("private final")
                || m.group(2).contains("texts[i] = new Text();"));
        }
    }
}
