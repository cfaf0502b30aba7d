import java.io.IOException;
import java.nio.file.Files;
import java.nio.file.Path;
import java.util.regex.Matcher;
import java.util.regex.Pattern;

/** What README.md tells one to type works as it stands there, and prints what it says. */
public final class ReadmeTest {
    private static final Pattern BLOCK = Pattern.compile("(?s)```sh\n(.*?)```(?:\n\nIt prints:\n\n```text\n(.*?)```)?");
    private static final String ALL = ".ci/run";

    public static void main(String[] args) throws IOException, InterruptedException {
        String page = Files.readString(Path.of("README.md"));
        Matcher found = BLOCK.matcher(page);
        int blocks = 0;
        int printing = 0;
        while (found.find()) {
            blocks++;
            String typed = found.group(1);
            if (typed.strip().equals(ALL)) {
                // which runs this test, so that it is only looked at
                Check.holds(ALL + " can be run", Files.isExecutable(Path.of(ALL)));
                continue;
            }
            printing += found.group(2) == null ? 0 : 1;
            type(typed, found.group(2));
        }
        Check.due("blocks to type", blocks, 4);
        Check.due("blocks that print what the page says", printing, 1);
        Check.holds("no other block", page.split("```", -1).length == 2 * (blocks + printing) + 1);
        everyTestIsNamed(page);
        Check.end("ReadmeTest");
    }

    private static void type(String typed, String want) throws IOException, InterruptedException {
        Process shell = new ProcessBuilder("bash", "-eu", "-c", typed).redirectErrorStream(true).start();
        shell.getOutputStream().close();
        String got = new String(shell.getInputStream().readAllBytes());
        Check.due("the end of: " + typed + got, shell.waitFor(), 0);
        if (want != null) {
            Check.holds("prints " + got + "but the page says " + want, got.equals(want));
        }
    }

    private static void everyTestIsNamed(String page) throws IOException {
        try (var files = Files.list(Path.of("src/test/java"))) {
            files.map(file -> file.getFileName().toString()).filter(name -> name.endsWith("Test.java"))
                .forEach(name -> Check.holds(name + " is named", page.contains("`" + name.replace(".java", "`"))));
        }
    }
}
