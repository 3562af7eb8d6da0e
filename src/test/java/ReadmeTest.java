import java.io.IOException;
import java.lang.reflect.Method;
import java.lang.reflect.Modifier;
import java.nio.file.Files;
import java.nio.file.Path;

/** README.md: its example answers what it says and stands here to the letter; each call is told, and each test. */
public final class ReadmeTest {
    private ReadmeTest() {
    }

    public static void main(String[] args) throws IOException {
        String readme = Files.readString(Path.of("README.md"));
        example();
        exampleIsTheSame(readme);
        callsAreTold(readme);
        testsAreTold(readme);
        Check.finish();
    }

    private static void example() {
        int ran = 0;
        SecondOboe band = new SecondOboe();
        Check.due("five instruments", 5, band.count(0));
        Check.due("four bars", 4, band.count(1));
        String text = "i1,1,4;i0,0,2;b3,0;g0;";
        for (int k = 0; k < text.length(); k++) {
            band.write(text.charAt(k));
        }
        if (band.fault() == SecondOboe.NONE && band.lay() > 0) {
            int played = band.plays(0);
            Check.due("both play, as bits", 3, played);
            int fewest = band.changes();
            Check.due("all bars are whole already", 0, fewest);
            ran++;
        }
        Check.due("the example's text is laid", 1, ran);
    }

    private static void exampleIsTheSame(String readme) throws IOException {
        String here = Files.readString(Path.of("src/test/java/ReadmeTest.java"));
        int lines = 0;
        for (String line : readme.split("```")[1].split("\n")) {
            String code = line.replaceAll("//.*", "").strip();
            if (!code.isEmpty() && !code.equals("java")) {
                lines++;
                Check.due(code + " stands here, too", 1, here.contains(" " + code + "\n") ? 1 : 0);
            }
        }
        Check.due("1 if the example has lines", 1, lines > 5 ? 1 : 0);
    }

    private static void callsAreTold(String readme) {
        for (Method method : SecondOboe.class.getDeclaredMethods()) {
            if (Modifier.isPublic(method.getModifiers())) {
                Check.due(method.getName() + " is told", 1, readme.contains("`" + method.getName() + "`") ? 1 : 0);
            }
        }
    }

    private static void testsAreTold(String readme) throws IOException {
        try (var files = Files.list(Path.of("src/test/java"))) {
            for (Path file : files.toList()) {
                String name = file.getFileName().toString().replace(".java", "");
                boolean told = !name.endsWith("Test") || readme.contains("| `" + name + "` |");
                Check.due(name + " is told", 1, told ? 1 : 0);
            }
        }
    }
}
