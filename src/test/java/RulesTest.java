import java.io.IOException;
import java.lang.management.ManagementFactory;
import java.lang.reflect.Constructor;
import java.lang.reflect.Field;
import java.lang.reflect.Method;
import java.lang.reflect.Modifier;
import java.nio.charset.StandardCharsets;
import java.nio.file.Files;
import java.nio.file.Path;
import java.util.Set;
import java.util.TreeSet;
import java.util.regex.Matcher;
import java.util.regex.Pattern;

/** The document's face, to the letter, and what can be seen of the rules of ../shared/LANGUAGE.md. */
public final class RulesTest {
    private static final Path SOURCE = Path.of("src/main/java/BranchedSums.java");
    private static final Path DOCUMENT = Path.of("../shared/DOC.md");
    private static final Set<String> FACE = Set.of(
        "int add(int,int)", "int addAll()", "int remove(int)", "int bar(int,int,boolean)", "int setRoom(int)",
        "int set(int,int)", "int begin()", "int step(int)", "int dive()", "int giveUp()", "int type(char)",
        "int clearText()", "int undo()", "int keep()", "int restore()", "int thing(int,int)", "int node(int,int)",
        "int next()", "int branchOf(int,int)", "int boundOf(int,int)", "int heelOf(int,int)", "int bestSum()",
        "int count(int)");
    private static final Set<String> CONSTANTS = Set.of("UNKNOWN", "BAD_VALUE", "FULL", "NOT_POSSIBLE", "NONE");
    private static final Set<String> LIBRARY = Set.of("Math.max", "Math.min", "Integer.bitCount", "System.arraycopy");

    private static final Due DUE = new Due();

    public static void main(String[] args) throws IOException, IllegalAccessException {
        face();
        faceOfTheDocument(Files.readString(DOCUMENT, StandardCharsets.UTF_8));
        String code = withoutComments(Files.readString(SOURCE, StandardCharsets.UTF_8));
        words(code);
        library(code);
        methodLengths(code);
        noObjectsByCalls();
        DUE.end();
    }

    private static void yes(String what, boolean holds) {
        DUE.is(what, holds ? 1 : 0, 1);
    }

    private static void face() {
        Class<?> face = BranchedSums.class;
        yes("the class is public and final", (face.getModifiers() & 17) == 17 && face.getInterfaces().length == 0);
        Set<String> seen = new TreeSet<>();
        Set<String> names = new TreeSet<>();
        for (Method method : face.getDeclaredMethods()) {
            if (Modifier.isPublic(method.getModifiers())) {
                seen.add(signature(method));
                names.add(method.getName());
            }
        }
        yes("the public methods are those of the document: " + seen, seen.equals(new TreeSet<>(FACE)));
        for (Method method : face.getDeclaredMethods()) {
            boolean hidden = Modifier.isPrivate(method.getModifiers()) && !names.contains(method.getName());
            yes(method.getName() + " is public or private with a name of its own",
                Modifier.isPublic(method.getModifiers()) || hidden);
        }
        Set<String> constants = new TreeSet<>();
        for (Field field : face.getDeclaredFields()) {
            boolean constant = (field.getModifiers() & 25) == 25 && field.getType() == int.class;
            if (constant) constants.add(field.getName());
            yes(field.getName() + " is a constant or private", constant || Modifier.isPrivate(field.getModifiers()));
        }
        yes("the constants are those of the document: " + constants, constants.equals(new TreeSet<>(CONSTANTS)));
        Constructor<?>[] constructors = face.getDeclaredConstructors();
        yes("one public constructor without parameters", constructors.length == 1
            && Modifier.isPublic(constructors[0].getModifiers()) && constructors[0].getParameterCount() == 0);
        for (Class<?> inside : face.getDeclaredClasses()) {
            int modifiers = inside.getModifiers();
            yes(inside.getName() + " is static and hidden", Modifier.isStatic(modifiers)
                && !Modifier.isPublic(modifiers) && !Modifier.isProtected(modifiers));
            for (Method method : inside.getDeclaredMethods()) {
                yes(method + " has a name of its own", !names.contains(method.getName()));
                yes(method + " has at most seven parameters", method.getParameterCount() <= 7);
            }
        }
        yes("at most twelve classes", face.getDeclaredClasses().length < 12);
    }

    /** Line by line, so that a face that is told anew in the document is seen here. */
    private static void faceOfTheDocument(String document) throws IllegalAccessException {
        Matcher block = Pattern.compile("(?s)```java\npublic final class BranchedSums \\{\n(.*?)\\}\n```").matcher(document);
        yes("the document tells the face", block.find());
        Set<String> told = new TreeSet<>();
        for (String line : block.group(1).split("\n")) {
            told.add(line.trim().replaceAll("(boolean|char|int) \\w+(?=[,)])", "$1").replace(", ", ","));
        }
        Set<String> seen = new TreeSet<>(Set.of("public BranchedSums();"));
        for (Method method : BranchedSums.class.getDeclaredMethods()) {
            if (Modifier.isPublic(method.getModifiers())) seen.add("public " + signature(method) + ";");
        }
        for (Field field : BranchedSums.class.getDeclaredFields()) {
            if (Modifier.isPublic(field.getModifiers())) {
                seen.add("public static final int " + field.getName() + " = " + field.getInt(null) + ";");
            }
        }
        yes("the face is that of the document, " + told + ", not " + seen, told.equals(seen));
    }

    private static String signature(Method method) {
        StringBuilder text = new StringBuilder();
        text.append(Modifier.isStatic(method.getModifiers()) ? "static " : "");
        text.append(method.getReturnType().getName()).append(' ').append(method.getName()).append('(');
        for (Class<?> type : method.getParameterTypes()) {
            if (text.charAt(text.length() - 1) != '(') text.append(',');
            text.append(type.getName());
        }
        return text.append(')').toString();
    }

    private static String withoutComments(String source) {
        return source.replaceAll("(?s)/\\*.*?\\*/", "").replaceAll("//[^\n]*", "");
    }

    private static void words(String code) {
        String[] forbidden = {"throw", "throws", "try", "catch", "finally", "synchronized", "assert", "import",
            "package", "volatile", "native", "transient", "protected", "equals", "hashCode", "toString", "Object",
            "Thread", "Random", "double", "float"};
        for (String word : forbidden) {
            yes("no '" + word + "'", !Pattern.compile("\\b" + word + "\\b").matcher(code).find());
        }
        yes("no lambda", !code.contains("->"));
        yes("no method reference", !code.contains("::"));
        yes("only signs of ASCII", code.chars().allMatch(sign -> sign == '\n' || sign >= 32 && sign < 127));
        yes("no static field that is not final",
            !Pattern.compile("\\bstatic (?!final\\b)[\\w\\[\\]]+ \\w+ *[=;]").matcher(code).find());
    }

    private static void library(String code) {
        Matcher matcher = Pattern.compile("\\b([A-Z][a-z]\\w*)\\.(\\w+)").matcher(code);
        while (matcher.find()) {
            yes(matcher.group() + " is of the library that is allowed", LIBRARY.contains(matcher.group()));
        }
    }

    private static void methodLengths(String code) {
        Matcher matcher = Pattern.compile("(?m)^( +)[\\w ]*\\w+\\([^;]*\\) \\{$(?:\n.*)*?\n\\1\\}$").matcher(code);
        int methods = 0;
        while (matcher.find()) {
            methods++;
            String method = matcher.group();
            yes("at most sixty lines: " + method.substring(0, method.indexOf('\n')), method.lines().count() <= 60);
        }
        yes("methods were found", methods > 50);
    }

    /** All calls of a run share one room, so that none may make objects: rows are made with the object. */
    private static void noObjectsByCalls() {
        com.sun.management.ThreadMXBean memory =
            (com.sun.management.ThreadMXBean) ManagementFactory.getThreadMXBean();
        BranchedSums[] made = new BranchedSums[20];
        for (int place = 0; place < made.length; place++) {
            made[place] = new BranchedSums();
        }
        long before = 0;
        long sum = 0;
        for (int place = 0; place < made.length; place++) {
            if (place == 10) before = memory.getThreadAllocatedBytes(Thread.currentThread().getId());
            sum += manyCalls(made[place]);
        }
        long bytes = memory.getThreadAllocatedBytes(Thread.currentThread().getId()) - before;
        yes("calls make no objects, but " + bytes + " bytes (" + sum + ")", bytes < 2000);
    }

    private static long manyCalls(BranchedSums x) {
        long sum = x.type('9') + x.type('/') + x.type('5') + x.type('!') + x.type('0');
        for (int round = 0; round < 12; round++) {
            sum += x.add(10 + round, 2 + round % 3) + x.bar(round, round / 2, true) + x.setRoom(15 + round);
            sum += x.set(0, round % 3) + x.set(1, round % 2 + 1) + x.begin() + x.step(2) + x.dive() + x.next();
            sum += x.step(200) + x.keep() + x.undo() + x.restore() + x.giveUp() + x.remove(99) + x.bestSum();
            sum += x.branchOf(0, 2) + x.boundOf(1, 2) + x.heelOf(1, 2) + x.thing(0, 2) + x.node(1, 7) + x.count(10);
            if (round % 4 == 3) sum += x.addAll() + x.remove(2) + x.clearText();
        }
        return sum;
    }
}
