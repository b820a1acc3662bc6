import java.io.IOException;
import java.lang.management.ManagementFactory;
import java.lang.reflect.Constructor;
import java.lang.reflect.Field;
import java.lang.reflect.Method;
import java.lang.reflect.Modifier;
import java.nio.charset.StandardCharsets;
import java.nio.file.Files;
import java.nio.file.Path;
import java.util.ArrayList;
import java.util.Arrays;
import java.util.List;
import java.util.Set;
import java.util.TreeSet;
import java.util.regex.Matcher;
import java.util.regex.Pattern;

/** The face of the document, what of the rules of LANGUAGE.md can be looked at from outside, and the room that calls take. */
public final class CopyArmsRulesTest {
    private static final List<String> FACE = List.of(
        "int feed(long,long,long)", "int office()", "int arm(int,int)", "int hole(int,int)", "int map(int,int)",
        "int point(int,int,boolean)", "boolean set(int,int,int)", "boolean turn(int,int)", "boolean pin(int,int,int)",
        "boolean bend(int,int)", "long trace(int,int,int,int)", "int chain(int)", "int size(int)",
        "long draw(int,int,int)", "int outs(int)", "int fitted(int,int,int)", "boolean see(int,int,int)",
        "boolean clear()", "int suspects()", "int crooked(int)", "long shakes(int)", "long steadiest(int)",
        "int sheets(int,int)", "int descent(int)", "boolean mark(int,boolean)", "int count(int)");
    private static int wrong = 0;

    public static void main(String[] args) throws IOException {
        face();
        classesInside();
        source(Files.readString(Path.of(System.getProperty("copyarms.source", "src/main/java/CopyArms.java")), StandardCharsets.US_ASCII));
        room();
        System.out.println(wrong == 0 ? "all rules looked at are kept" : wrong + " rules are broken");
        if (wrong != 0) {
            System.exit(1);
        }
    }

    private static void look(boolean good, String what) {
        if (!good) {
            wrong++;
            System.out.println("broken: " + what);
        }
    }

    private static String told(Method m) {
        List<String> types = new ArrayList<>();
        for (Class<?> type : m.getParameterTypes()) {
            types.add(type.getSimpleName());
        }
        return m.getReturnType().getSimpleName() + " " + m.getName() + "(" + String.join(",", types) + ")";
    }

    private static void face() {
        look(Modifier.isPublic(CopyArms.class.getModifiers()) && Modifier.isFinal(CopyArms.class.getModifiers()), "public and final");
        Set<String> open = new TreeSet<>();
        Set<String> names = new TreeSet<>();
        for (Method m : CopyArms.class.getDeclaredMethods()) {
            if (Modifier.isPublic(m.getModifiers())) {
                open.add(told(m));
                names.add(m.getName());
                look(!Modifier.isStatic(m.getModifiers()), "not static: " + m);
            }
        }
        look(open.equals(new TreeSet<>(FACE)), "the face: " + open);
        for (Class<?> c : allClasses()) {
            for (Method m : c.getDeclaredMethods()) {
                boolean isFace = c == CopyArms.class && Modifier.isPublic(m.getModifiers());
                look(isFace || !names.contains(m.getName()), "bears the name of a public one: " + m);
                look(c != CopyArms.class || isFace || Modifier.isPrivate(m.getModifiers()), "private: " + m);
                look(m.getParameterCount() <= 7, "seven parameters: " + m);
            }
        }
        Constructor<?>[] constructors = CopyArms.class.getDeclaredConstructors();
        look(constructors.length == 1 && constructors[0].getParameterCount() == 0 && Modifier.isPublic(constructors[0].getModifiers()), "constructor");
        for (Field f : CopyArms.class.getDeclaredFields()) {
            look(Modifier.isPrivate(f.getModifiers()) || f.getName().equals("NONE"), "private: " + f);
        }
    }

    private static List<Class<?>> allClasses() {
        List<Class<?>> all = new ArrayList<>();
        all.add(CopyArms.class);
        all.addAll(Arrays.asList(CopyArms.class.getDeclaredClasses()));
        return all;
    }

    private static void classesInside() {
        look(allClasses().size() <= 12, "twelve classes: " + allClasses().size());
        for (Class<?> c : allClasses()) {
            look(c == CopyArms.class || Modifier.isStatic(c.getModifiers()) && !Modifier.isPublic(c.getModifiers()), "static, not public: " + c);
            int fields = 0;
            for (Field f : c.getDeclaredFields()) {
                boolean isStatic = Modifier.isStatic(f.getModifiers());
                fields += isStatic ? 0 : 1;
                look(!isStatic || Modifier.isFinal(f.getModifiers()), "final: " + f);
                boolean isPlain = Set.of("int", "long", "boolean", "char", "String", "int[]", "long[]", "char[]", "byte[]").contains(f.getType().getSimpleName());
                look(!isStatic || isPlain, "type of a constant: " + f);
            }
            look(fields <= 20, "twenty fields: " + c);
        }
    }

    private static void source(String text) {
        String code = text.replaceAll("(?s)/\\*.*?\\*/", "").replaceAll("//[^\n]*", "");
        Matcher imports = Pattern.compile("(?m)^\\s*import\\s+(.*);").matcher(code);
        while (imports.find()) {
            look(imports.group(1).equals("java.util.NoSuchElementException"), "import: " + imports.group(1));
        }
        String[] none = {"package", "try", "catch", "finally", "synchronized", "assert", "instanceof", "protected", "volatile",
            "native", "strictfp", "transient", "System", "Object", "hashCode", "toString", "double", "float"};
        for (String word : none) {
            look(!Pattern.compile("\\b" + word + "\\b").matcher(code).find(), "not used: " + word);
        }
        look(!code.contains("->") && !code.contains("::"), "no lambda, no method reference");
        look(!Pattern.compile("\\w+Exact\\b").matcher(code).find(), "no function whose name ends in Exact");
        Matcher thrown = Pattern.compile("\\bthrow\\b([^;]*);").matcher(code);
        while (thrown.find()) {
            look(thrown.group(1).matches(" new NoSuchElementException\\(\"[^\"]*\"\\)"), "throw: " + thrown.group(1));
        }
        library(code);
        methodLengths(text.split("\n"));
    }

    /** Rule 4 lists functions of these classes alone, none of their constants. */
    private static void library(String code) {
        Matcher used = Pattern.compile("\\b(Math|Integer|Long|Arrays)\\.(\\w+)(\\()?").matcher(code);
        while (used.find()) {
            boolean isListed = Set.of("abs", "min", "max", "bitCount").contains(used.group(2));
            look(isListed && used.group(3) != null, "library: " + used.group());
        }
    }

    /** By the indentation: a method is closed by the first line with its own indentation and a brace alone. */
    private static void methodLengths(String[] lines) {
        Pattern opening = Pattern.compile("( {4}| {8})(?!if|for|while|switch)[a-z][^=;]*\\([^;]*\\{");
        for (int i = 0; i < lines.length; i++) {
            Matcher m = opening.matcher(lines[i]);
            if (m.matches()) {
                int end = i;
                while (end < lines.length && !lines[end].equals(m.group(1) + "}")) {
                    end++;
                }
                look(end - i < 60, "sixty lines: " + lines[i]);
            }
        }
    }

    /** What is needed is made with the object: calls that are answered make nothing. */
    private static void room() {
        com.sun.management.ThreadMXBean bean = (com.sun.management.ThreadMXBean) ManagementFactory.getThreadMXBean();
        CopyArms x = new CopyArms();
        allCalls(x);
        long before = bean.getThreadAllocatedBytes(Thread.currentThread().getId());
        for (int i = 0; i < 1000; i++) {
            allCalls(x);
        }
        long taken = bean.getThreadAllocatedBytes(Thread.currentThread().getId()) - before;
        look(taken < 100_000, "a thousand rounds of calls took " + taken + " bytes");
    }

    private static void allCalls(CopyArms x) {
        feed(x, "arm a plain holes 1 2 3 4 turn 0 at 0 0 reach 200 shake 3;arm b loose holes 5 7 turn 0 at 0 0 reach 200 shake 3;");
        feed(x, "map a size 1 to 2 slips 3 points 1 1,2 2,3 3,4 4,5 5,6 6;map");
        x.office();
        feed(x, "arm a plain holes 1 2 3 4 turn 0 at 0 0 reach 200 shake 3;arm b loose holes 5 7 turn 0 at 0 0 reach 200 shake 3;");
        feed(x, "map m size 1 to 2 slips 3 points 1 1,2 2,3 3,4 4,5 5,6 6;map n size 1 to 1 slips 3 points 1 1;");
        if (x.office() != 0) {
            look(false, "an office is told");
        }
        x.chain(1);
        x.chain(0);
        x.see(0, 0, 0);
        x.set(0, 1, 0);
        x.turn(0, 1);
        x.pin(0, 1, 0);
        x.pin(0, 0, 0);
        x.bend(0, 1);
        x.mark(1, false);
        x.mark(1, true);
        x.trace(0, 1, 1, 1);
        x.draw(1, 1, 1);
        x.outs(0);
        x.size(0);
        x.fitted(16, 7, 1);
        x.suspects();
        x.crooked(0);
        x.shakes(0);
        x.steadiest(0);
        x.sheets(0, 1);
        x.descent(0);
        x.clear();
        x.count(0);
        x.arm(0, 0);
        x.hole(0, 0);
        x.map(0, 0);
        x.point(0, 0, true);
    }

    private static void feed(CopyArms x, String text) {
        for (int start = 0; start < text.length(); start += 8) {
            long word = 0;
            for (int i = start; i < start + 8; i++) {
                word = word << 8 | (i < text.length() ? text.charAt(i) : 0);
            }
            x.feed(word, 0, 0);
        }
    }
}
