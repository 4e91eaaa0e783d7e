import java.io.IOException;
import java.lang.reflect.Constructor;
import java.lang.reflect.Field;
import java.lang.reflect.Method;
import java.lang.reflect.Modifier;
import java.nio.file.Files;
import java.nio.file.Path;
import java.util.ArrayList;
import java.util.Arrays;
import java.util.List;
import java.util.Map;
import java.util.Set;
import java.util.TreeMap;
import java.util.TreeSet;
import java.util.regex.Matcher;
import java.util.regex.Pattern;
import java.util.stream.Collectors;

/** The document's face, and those rules of LANGUAGE.md that can be read from the class or its text. */
public final class FaceTest {
    private static final Due DUE = new Due("FaceTest");
    private static final String DOCUMENT = "../shared/DOC.md";
    private static final String SOURCE = "src/main/java/WheelOnWheel.java";
    private static final String FACE = """
        int letter(int) int sheet() int ring(int) int wheel(int,int,int,int,int) int of(int,int) int change(int,int,int)
        int puts(int,int) int next(int,int) long ratio(int,int) int wears(int) int tooth(int,int)
        int drawing(int,int) int arc(int,int) int crosses(int,int) int behind(int,int) int between(int,int)
        int mirror(int,int,int) int full() long odds(int,int)
        int touch(int,int,int) int meet(int,int) int crowd(int,int,int) int roll(int,int) int inked(int) int ahead(int)
        long fits(int,int,int) int kinds(int,int,int) int drawnBy(int,int) int judge(int,int) int lots(int,int,int)
        int list(int,int) int put(int,int,int) long look(int,int) int lays(int,int,int)
        int undo() int image() int on() int count(int)
        """;

    public static void main(String[] args) throws IOException {
        face();
        faceAsTheDocumentTellsIt();
        classesInside();
        String text = withoutCommentsAndTexts(Files.readString(Path.of(SOURCE)));
        words(text);
        sizes(text);
        DUE.close();
    }

    private static String told(Method method) {
        String numbers = Arrays.stream(method.getParameterTypes()).map(Class::getSimpleName).collect(Collectors.joining(","));
        return method.getReturnType().getSimpleName() + " " + method.getName() + "(" + numbers + ")";
    }

    private static void face() {
        Set<String> due = new TreeSet<>();
        Matcher matcher = Pattern.compile("(int|long) \\w+\\([^)]*\\)").matcher(FACE);
        while (matcher.find()) {
            due.add(matcher.group());
        }
        DUE.is(0, "methods that the face tells", due.size(), 38);
        Set<String> names = new TreeSet<>();
        Set<String> got = new TreeSet<>();
        for (Method method : WheelOnWheel.class.getDeclaredMethods()) {
            if (Modifier.isPublic(method.getModifiers())) {
                got.add(told(method));
                names.add(method.getName());
            } else {
                DUE.holds(method + " is private", Modifier.isPrivate(method.getModifiers()));
            }
        }
        DUE.holds("the face: " + got, got.equals(due));
        for (Class<?> type : allClasses()) {
            for (Method method : type.getDeclaredMethods()) {
                boolean open = Modifier.isPublic(method.getModifiers()) && type == WheelOnWheel.class;
                DUE.holds(method + " bears no name of the face", open || !names.contains(method.getName()));
            }
        }
        DUE.holds("public final", WheelOnWheel.class.getModifiers() == (Modifier.PUBLIC | Modifier.FINAL));
        Constructor<?>[] constructors = WheelOnWheel.class.getDeclaredConstructors();
        DUE.is(0, "constructors", constructors.length, 1);
        DUE.holds("public constructor", Modifier.isPublic(constructors[0].getModifiers()));
        for (Field field : WheelOnWheel.class.getDeclaredFields()) {
            DUE.holds(field + " is private", Modifier.isPrivate(field.getModifiers()));
        }
    }

    /** Each call's head to the letter, in the document's order, each part under the line that the interface says ahead. */
    private static void faceAsTheDocumentTellsIt() throws IOException {
        String document = Files.readString(Path.of(DOCUMENT));
        Map<String, String> ahead = new TreeMap<>();
        Matcher parts = Pattern.compile("Ahead of the calls `(\\w+)`.* the interface says: (---- .*)\\.").matcher(document);
        while (parts.find()) {
            ahead.put(parts.group(1), parts.group(2));
        }
        DUE.is(0, "parts of the face", ahead.size(), 5);
        List<String> due = new ArrayList<>();
        Matcher calls = Pattern.compile("(?m)^    (public (?:int |long )?(\\w+)\\(.*\\));$").matcher(document);
        while (calls.find()) {
            if (ahead.containsKey(calls.group(2))) {
                due.add("// " + ahead.get(calls.group(2)));
            }
            due.add(calls.group(1));
        }
        DUE.is(0, "lines of the face", due.size(), 1 + 5 + 38);
        List<String> got = new ArrayList<>();
        Pattern line = Pattern.compile("(?m)^    (// ---- .*|public .*(?= \\{$))");
        Matcher lines = line.matcher(Files.readString(Path.of(SOURCE)));
        while (lines.find()) {
            got.add(lines.group(1));
        }
        DUE.holds("the face as the document tells it: " + got, got.size() >= due.size() && got.subList(0, due.size()).equals(due));
        DUE.holds("no call behind it", got.stream().skip(due.size()).noneMatch(head -> head.startsWith("public")));
    }

    private static Set<Class<?>> allClasses() {
        Set<Class<?>> classes = new java.util.LinkedHashSet<>(Arrays.asList(WheelOnWheel.class.getDeclaredClasses()));
        classes.add(WheelOnWheel.class);
        return classes;
    }

    private static void classesInside() {
        DUE.holds("twelve classes at most", allClasses().size() <= 12);
        for (Class<?> type : allClasses()) {
            int modifiers = type.getModifiers();
            boolean inside = Modifier.isStatic(modifiers) && !Modifier.isPublic(modifiers) && !Modifier.isProtected(modifiers);
            DUE.holds(type + " is static", inside || type == WheelOnWheel.class);
            int fields = 0;
            for (Field field : type.getDeclaredFields()) {
                boolean fixed = Modifier.isStatic(field.getModifiers());
                fields += fixed ? 0 : 1;
                DUE.holds(field + " is final, if static", !fixed || Modifier.isFinal(field.getModifiers()));
            }
            DUE.holds(type + " has twenty fields at most", fields <= 20);
            for (Method method : type.getDeclaredMethods()) {
                DUE.holds(method + " takes seven numbers at most", method.getParameterCount() <= 7);
            }
        }
    }

    private static String withoutCommentsAndTexts(String text) {
        String plain = text.replaceAll("(?s)/\\*.*?\\*/", "").replaceAll("//[^\n]*", "");
        return plain.replaceAll("\"[^\"\n]*\"", "TEXT").replaceAll("'[^'\n]+'", "SIGN");
    }

    private static void words(String text) {
        String[] ruledOut = {"throw", "throws", "try", "catch", "finally", "synchronized", "assert", "package", "native",
            "volatile", "transient", "equals", "hashCode", "toString", "protected", "var", "Object", "Thread",
            "System.nanoTime", "System.currentTimeMillis", "System.out", "Random", "Exception", "Error"};
        for (String word : ruledOut) {
            String pattern = "\\b" + Pattern.quote(word) + "\\b";
            DUE.holds("no " + word, !Pattern.compile(pattern).matcher(text).find());
        }
        DUE.holds("no lambda", !text.contains("->"));
        DUE.holds("no method reference", !text.contains("::"));
        DUE.holds("no static block", !Pattern.compile("\\bstatic\\s*\\{").matcher(text).find());
        DUE.holds("signs 1 to 127", text.chars().allMatch(c -> c > 0 && c < 128));
        Matcher imports = Pattern.compile("(?m)^import (.*);$").matcher(text);
        while (imports.find()) {
            DUE.holds("import " + imports.group(1), imports.group(1).equals("java.util.Arrays"));
        }
        Matcher calls = Pattern.compile("\\b(Math|Arrays|System|Integer|Long)\\.(\\w+)").matcher(text);
        Set<String> listed = Set.of("Math.min", "Math.max", "Math.abs", "Arrays.fill", "System.arraycopy");
        while (calls.find()) {
            DUE.holds(calls.group() + " is listed", listed.contains(calls.group()));
        }
    }

    /** A method ends at the first line that is its closing brace, as far in as its head. */
    private static void sizes(String text) {
        String[] lines = text.split("\n", -1);
        Pattern head = Pattern.compile("^( +)[\\w\\[\\] ]+\\([^;]*\\) \\{$");
        Pattern other = Pattern.compile("^ *(if|for|while|switch|do|\\}|else|return).*");
        int methods = 0;
        for (int i = 0; i < lines.length; i++) {
            Matcher matcher = head.matcher(lines[i]);
            if (matcher.matches() && !other.matcher(lines[i]).matches()) {
                int end = i;
                while (!lines[end].equals(matcher.group(1) + "}")) {
                    end++;
                }
                methods++;
                DUE.holds(lines[i].strip() + " is sixty lines at most", end - i <= 60);
            }
        }
        DUE.holds("methods found: " + methods, methods > 90);
    }
}
