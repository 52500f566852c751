import java.io.IOException;
import java.lang.reflect.Constructor;
import java.lang.reflect.Field;
import java.lang.reflect.Method;
import java.lang.reflect.Modifier;
import java.nio.file.Files;
import java.nio.file.Path;
import java.util.ArrayList;
import java.util.List;
import java.util.Map;
import java.util.Set;
import java.util.TreeMap;
import java.util.TreeSet;
import java.util.regex.Matcher;
import java.util.regex.Pattern;

/** The class has the face that ../shared/DOC.md shows and nothing else to be seen, and keeps to ../shared/LANGUAGE.md where a scan can tell. */
public final class FaceTest {
    private static final Path DOC = Path.of("../shared/DOC.md");
    private static final Path SOURCE = Path.of("src/main/java/JobWorkshop.java");
    private static final int MOST_DEEP = 8;
    private static int wrong = 0;

    public static void main(String[] args) throws IOException, IllegalAccessException {
        String doc = Files.readString(DOC);
        String face = doc.substring(doc.indexOf("public final class JobWorkshop {"), doc.indexOf("## Terms"));
        methods(face);
        constants(face);
        onlyTheFace();
        source(Files.readString(SOURCE));
        System.out.println(wrong == 0 ? "the face is as told" : wrong + " faults");
        if (wrong != 0) {
            System.exit(1);
        }
    }

    private static void check(boolean good, String what) {
        if (!good) {
            wrong++;
            System.out.println(what);
        }
    }

    private static String told(Method method) {
        List<String> parameters = new ArrayList<>();
        for (Class<?> type : method.getParameterTypes()) parameters.add(type.getSimpleName());
        Set<String> exceptions = new TreeSet<>();
        for (Class<?> type : method.getExceptionTypes()) exceptions.add(type.getSimpleName());
        return method.getReturnType().getSimpleName() + " " + method.getName() + parameters + exceptions;
    }

    private static void methods(String face) {
        Set<String> want = new TreeSet<>();
        Matcher line = Pattern.compile("public (\\w+) (\\w+)\\(([^)]*)\\)(?: throws ([^;]*))?;").matcher(face);
        while (line.find()) {
            List<String> parameters = new ArrayList<>();
            for (String parameter : line.group(3).split(", ")) if (!parameter.isEmpty()) parameters.add(parameter.split(" ")[0]);
            Set<String> exceptions = new TreeSet<>();
            if (line.group(4) != null) exceptions.addAll(List.of(line.group(4).split(", ")));
            want.add(line.group(1) + " " + line.group(2) + parameters + exceptions);
        }
        Set<String> got = new TreeSet<>();
        for (Method method : JobWorkshop.class.getDeclaredMethods()) {
            if (Modifier.isPublic(method.getModifiers()) && !Modifier.isStatic(method.getModifiers())) got.add(told(method));
        }
        check(want.size() == 44 && got.equals(want), "the public methods are " + got + ", told are " + want);
    }

    private static void constants(String face) throws IllegalAccessException {
        Matcher constant = Pattern.compile("([A-Z_]+) = (-?\\d+)").matcher(face);
        Set<String> want = new TreeSet<>();
        while (constant.find()) want.add(constant.group(1) + " " + constant.group(2));
        Set<String> got = new TreeSet<>();
        for (Field field : JobWorkshop.class.getDeclaredFields()) {
            int bits = field.getModifiers();
            if (Modifier.isPublic(bits)) {
                check(Modifier.isStatic(bits) && Modifier.isFinal(bits) && field.getType() == int.class, field + " is no constant");
                got.add(field.getName() + " " + field.getInt(null));
            }
        }
        check(want.size() == 14 && got.equals(want), "the constants are " + got + ", told are " + want);
    }

    private static boolean isHidden(int modifiers) {
        return Modifier.isPrivate(modifiers);
    }

    private static void onlyTheFace() {
        Class<?> it = JobWorkshop.class;
        check(Modifier.isFinal(it.getModifiers()) && Modifier.isPublic(it.getModifiers()), "the class is not public and final");
        check(it.getSuperclass() == Object.class && it.getInterfaces().length == 0, "the class has a class above it");
        Constructor<?>[] constructors = it.getDeclaredConstructors();
        check(constructors.length == 1 && Modifier.isPublic(constructors[0].getModifiers()) && constructors[0].getParameterCount() == 0, "the constructor");
        Set<String> publicNames = new TreeSet<>();
        for (Method method : it.getDeclaredMethods()) {
            if (Modifier.isPublic(method.getModifiers())) publicNames.add(method.getName());
            else check(isHidden(method.getModifiers()), method + " can be seen");
        }
        for (Field field : it.getDeclaredFields()) check(Modifier.isPublic(field.getModifiers()) || isHidden(field.getModifiers()), field + " can be seen");
        Class<?>[] inner = it.getDeclaredClasses();
        check(inner.length <= 11, "more than twelve classes");
        for (Class<?> one : inner) {
            check(Modifier.isStatic(one.getModifiers()) && isHidden(one.getModifiers()), one + " is not private and static");
            check(one.getDeclaredFields().length <= 20, one + " has many fields");
            for (Method method : one.getDeclaredMethods()) {
                check(!publicNames.contains(method.getName()), method + " bears a public name");
                check(method.getParameterCount() <= 7, method + " has many parameters");
            }
        }
        for (Method method : it.getDeclaredMethods()) {
            if (isHidden(method.getModifiers())) check(!publicNames.contains(method.getName()), method + " bears a public name");
        }
    }

    private static void source(String text) {
        String code = text.replaceAll("(?s)/\\*.*?\\*/", "").replaceAll("//[^\n]*", "").replaceAll("\"[^\"]*\"", "\"\"");
        String[] ruledOut = {"->", "::", "\\bcatch\\b", "\\bfinally\\b", "\\bsynchronized\\b", "\\bassert\\b", "Exact\\b", "\\bpackage\\b", "\\bSystem\\.(?!arraycopy)",
            "\\bwhile \\(true\\)", "for \\(;;", "\\bfloat\\b.*%", "\\bthrow new \\w+\\(\\)", "\\bstatic \\{", "\\bThread\\b", "\\bRandom\\b"};
        for (String pattern : ruledOut) check(!Pattern.compile(pattern).matcher(code).find(), "the source holds " + pattern);
        for (Matcher m = Pattern.compile("import ([\\w.]+);").matcher(code); m.find(); ) check(m.group(1).equals("java.util.Arrays"), "import " + m.group(1));
        for (Matcher m = Pattern.compile("throw new (\\w+)").matcher(code); m.find(); ) {
            check(Set.of("IndexOutOfBoundsException", "IllegalArgumentException", "IllegalStateException").contains(m.group(1)), "throw " + m.group(1));
        }
        check(text.chars().allMatch(sign -> sign < 128), "a sign above 127");
        check(!Pattern.compile("\"\"\\s*\\+|\\+\\s*\"\"").matcher(code).find(), "a text joined by +");
        onlyRowsOfFields(code);
        shortMethods(code);
    }

    /** Rule 11: methods of some sixty lines, at most seven parameters, and calls at most eight deep but for a method that calls itself. */
    private static void shortMethods(String code) {
        Map<String, Set<String>> called = new TreeMap<>();
        Matcher method = Pattern.compile("(?m)^( {4}| {8})(?! )[\\w\\[\\] ]*?(\\w+)\\(([^)]*)\\)[^;{}=]*\\{\n((?:.*\n)*?)\\1\\}").matcher(code);
        while (method.find()) {
            check(method.group(4).split("\n").length <= 60, method.group(2) + " is long");
            check(method.group(3).split(",").length <= 7, method.group(2) + " has many parameters");
            Set<String> names = called.computeIfAbsent(method.group(2), name -> new TreeSet<>());
            for (Matcher call = Pattern.compile("(?<!Math\\.|Arrays\\.|new )\\b(\\w+)\\(").matcher(method.group(4)); call.find(); ) names.add(call.group(1));
        }
        check(called.size() > 100, "only " + called.size() + " methods were found");
        for (String name : called.keySet()) check(depth(name, called, 1) <= MOST_DEEP, name + " calls more than eight deep");
    }

    /** How many calls stand open at once; methods of one name in several classes are taken for one, which can only add to it. */
    private static int depth(String name, Map<String, Set<String>> called, int open) {
        int deepest = open;
        if (open <= MOST_DEEP) {
            for (String next : called.get(name)) {
                if (called.containsKey(next) && !next.equals(name)) deepest = Math.max(deepest, depth(next, called, open + 1));
            }
        }
        return deepest;
    }

    /** All calls of a run share one room, so that only fields, exceptions and the eight kept states may be made. */
    private static void onlyRowsOfFields(String code) {
        for (String line : code.split("\n")) {
            if (line.contains("new ")) {
                boolean isField = Pattern.compile("^\\s*(private )?final [\\w\\[\\]]+ \\w+ = new ").matcher(line).find();
                boolean isKept = line.trim().equals("kept = new Shop();");
                check(isField || isKept || line.contains("throw new "), "made in a call: " + line.trim());
            }
        }
    }
}
