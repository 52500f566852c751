import java.io.IOException;
import java.nio.file.Files;
import java.nio.file.Path;
import java.util.ArrayList;
import java.util.List;
import java.util.regex.Matcher;
import java.util.regex.Pattern;

/** README.md tells how the class is used: each answer of its example holds, and it names all of the face in ../shared/DOC.md. */
public final class ReadmeTest {
    private static final Calls CALLS = new Calls(JobWorkshop.class);
    private static int wrong = 0;

    public static void main(String[] args) throws IOException, ReflectiveOperationException {
        String readme = Files.readString(Path.of("README.md"));
        String doc = Files.readString(Path.of("../shared/DOC.md"));
        String face = doc.substring(doc.indexOf("public final class JobWorkshop {"), doc.indexOf("## Terms"));
        example(readme);
        callsNamed(readme, face);
        constantsNamed(readme, face);
        sentencesTold(readme.replaceAll("\\s+", " "));
        System.out.println(wrong == 0 ? "README.md tells the class as it is" : wrong + " faults in README.md");
        if (wrong != 0) {
            System.exit(1);
        }
    }

    private static void check(boolean good, String what) {
        if (!good) {
            wrong++;
            System.out.println("README.md: " + what);
        }
    }

    private static void example(String readme) throws ReflectiveOperationException {
        int begin = readme.indexOf("```java\n");
        String code = readme.substring(begin, readme.indexOf("```\n", begin + 3));
        JobWorkshop shop = new JobWorkshop();
        int calls = 0;
        for (Matcher line = Pattern.compile("shop\\.(\\w+)\\(([^)]*)\\);\\s+// ([^:\\s]+)").matcher(code); line.find(); ) {
            Object got = CALLS.answer(shop, line.group(1), numbers(line.group(2)));
            String told = got instanceof Class ? ((Class<?>) got).getSimpleName() : got.toString();
            check(told.equals(line.group(3)), line.group() + " is what it tells, but the answer is " + told);
            calls++;
        }
        check(calls == code.split("\n").length - 2, "a line of the example tells no answer");
    }

    private static String[] numbers(String told) throws ReflectiveOperationException {
        if (told.isEmpty()) {
            return new String[0];
        }
        String[] numbers = told.split(", ");
        for (int i = 0; i < numbers.length; i++) {
            if (numbers[i].startsWith("JobWorkshop.")) {
                numbers[i] = String.valueOf(JobWorkshop.class.getField(numbers[i].substring(12)).getInt(null));
            }
            numbers[i] = numbers[i].replaceAll("L$", "");
        }
        return numbers;
    }

    private static void callsNamed(String readme, String face) {
        int calls = 0;
        for (Matcher line = Pattern.compile("public \\w+ (\\w+)\\(([^)]*)\\)").matcher(face); line.find(); ) {
            List<String> names = new ArrayList<>();
            for (String parameter : line.group(2).split(", ")) {
                if (!parameter.isEmpty()) names.add(parameter.substring(parameter.indexOf(' ') + 1));
            }
            String call = "`" + line.group(1) + "(" + String.join(", ", names) + ")`";
            check(readme.contains("| " + call + " |") || readme.contains("\n" + call), "it does not tell " + call);
            calls++;
        }
        check(calls == 44, "the face has 44 calls, not " + calls);
    }

    private static void constantsNamed(String readme, String face) {
        int constants = 0;
        for (Matcher line = Pattern.compile("[A-Z_]+ = -?\\d+").matcher(face); line.find(); ) {
            check(readme.contains("`" + line.group() + "`"), "it does not tell " + line.group());
            constants++;
        }
        check(constants == 14, "the face has 14 constants, not " + constants);
    }

    private static void sentencesTold(String readme) {
        String[] sentences = {"A call that throws an exception changes nothing", "An object is used for at most 512 calls", "`new JobWorkshop()`",
            "`IndexOutOfBoundsException`", "`IllegalArgumentException`", "`IllegalStateException`", ".ci/run", "`FAILED:`", "`all tests passed`"};
        for (String sentence : sentences) check(readme.contains(sentence), "it does not tell " + sentence);
    }
}
