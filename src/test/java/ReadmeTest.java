import java.io.IOException;
import java.nio.file.Files;
import java.nio.file.Path;
import java.util.List;

/** README.md, "How to use it": its example answers what it says, and its calls are those of the face. */
public final class ReadmeTest {
    public static void main(String[] args) throws IOException {
        example();
        callsAndTests();
        Check.done();
    }

    private static void example() {
        LineBreaker x = new LineBreaker();
        x.wide(0, 6000);
        for (int word : new int[] {1500, 700, 2100}) {
            x.box(word);
            x.glue(333, 166, 0, 111);
        }
        x.box(500);
        Check.same("README, the hyphen's item", x.hyphen(200, LineBreaker.NOTHING, 0), 7);
        x.box(900);
        x.glue(333, 166, 0, 111);
        x.box(2500);
        Check.same("README, lines", x.breakUp(), 2);
        Check.same("README, pass", x.pass(), 2);
        Lines.same("README", x, 0, 7, 0, 1, 0, 2, 2600);
        Lines.same("README", x, 1, 13, 8, 2267, 0, 2, 7700);
    }

    private static void callsAndTests() throws IOException {
        String text = Files.readString(Path.of("README.md"));
        List<String> calls = List.of("box(width)", "glue(width, stretch, order, shrink)", "kern(width, explicit)",
                "penalty(p)", "hyphen(before, behind, replaced)", "keep(n)", "items()", "set(which, value)",
                "wide(i, width)", "around(which, width, stretch, order, shrink)", "breakUp()", "pass()", "nodes()",
                "line(i, what)", "total(i)");
        for (String call : calls) {
            Check.same("README tells of " + call, text.contains("`" + call + "`"), true);
        }
        try (var files = Files.list(Path.of("src/test/java"))) {
            for (Path file : files.toList()) {
                String name = file.getFileName().toString().replace(".java", "");
                if (name.endsWith("Test")) {
                    Check.same("README tells of " + name, text.contains("`" + name + "`"), true);
                }
            }
        }
    }
}
