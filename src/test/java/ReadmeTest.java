import java.io.IOException;
import java.lang.reflect.Method;
import java.lang.reflect.Modifier;
import java.nio.file.Files;
import java.nio.file.Path;
import java.util.ArrayList;
import java.util.List;
import java.util.stream.Stream;

/** README.md tells how to use the class: its example answers what it says, and no call and no test is left out. */
public final class ReadmeTest {
    private static final List<String> called = new ArrayList<>();

    public static void main(String[] args) throws IOException {
        String readme = Files.readString(Path.of("README.md"));
        makeTheCalls();
        List<String> told = callsOfTheExample(readme);
        Check.holds("the example's calls are those made here: " + told + " and " + called, told.equals(called));
        for (Method method : GuardVolume.class.getDeclaredMethods()) {
            if (Modifier.isPublic(method.getModifiers())) {
                Check.holds("README.md tells " + method.getName(), readme.contains("| `" + method.getName() + "("));
            }
        }
        for (String name : namesOfTests()) {
            Check.holds("README.md tells " + name, readme.contains("`" + name + "`"));
        }
        Check.end();
    }

    private static void makeTheCalls() {
        GuardVolume volume = new GuardVolume();
        answers("volume.write(9, 1, 11);", volume.write(9, 1, 11));
        volume.plan(0, 1, 0, 0);
        answersNothing("volume.plan(0, 1, 0, 0);");
        answers("volume.write(9, 1, 12);", volume.write(9, 1, 12));
        answers("volume.read(9, 1);", volume.read(9, 1));
        answers("volume.code();", volume.code());
        answers("volume.verdict(0, 9);", volume.verdict(0, 9));
        answers("volume.scrub(64);", volume.scrub(64));
        answers("volume.finding(0, 2);", volume.finding(0, 2));
        answers("volume.verdict(0, 9);", volume.verdict(0, 9));
        volume.cutAfter(2);
        answersNothing("volume.cutAfter(2);");
        answers("volume.write(9, 1, 13);", volume.write(9, 1, 13));
        answers("volume.start();", volume.start());
        answers("volume.read(9, 1);", volume.read(9, 1));
        volume.replace(1);
        answersNothing("volume.replace(1);");
        answers("volume.verdict(1, 9);", volume.verdict(1, 9));
        answers("volume.rebuild(1);", volume.rebuild(1));
        answers("volume.verdict(1, 9);", volume.verdict(1, 9));
    }

    private static void answers(String call, int answer) {
        called.add(call + " " + answer);
    }

    private static void answersNothing(String call) {
        called.add(call + " -");
    }

    /** Each call with the number that its comment begins with; "-" if it begins with a word. */
    private static List<String> callsOfTheExample(String readme) {
        List<String> told = new ArrayList<>();
        for (String line : readme.split("\n")) {
            int comment = line.indexOf("//");
            if (line.startsWith("volume.") && comment > 0) {
                String first = line.substring(comment + 2).trim().split("[: ]")[0];
                told.add(line.substring(0, comment).trim() + " " + (first.matches("-?[0-9]+") ? first : "-"));
            }
        }
        return told;
    }

    private static List<String> namesOfTests() throws IOException {
        try (Stream<Path> files = Files.list(Path.of("src/test/java"))) {
            return files.map(file -> file.getFileName().toString().replace(".java", "")).sorted().toList();
        }
    }
}
