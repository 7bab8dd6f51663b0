import java.io.IOException;
import java.nio.file.Files;
import java.nio.file.Path;

/** The example of README.md answers what it tells, and names each test that stands here. */
public class ReadmeTests extends Checks {
    public static void main(String[] args) throws IOException {
        example();
        names();
        end("README.md");
    }

    private static void example() {
        about("the example of README.md");
        NettingHall hall = new NettingHall();
        is("deposit", hall.deposit(1, 500), 500);
        int order = hall.order(1, 0, 1, 100, 10, 0, NettingHall.DAY);
        is("the other order", hall.order(2, 0, 0, 100, 4, 0, NettingHall.NOW), 1);
        is("standing", hall.standing(order), 61);
        is("position", hall.position(2, 0), 4);
        is("instrument", hall.instrument(0), 1000);
        is("read", hall.read(0), 50100);
        is("tick", hall.tick(1), 0);
        is("replays", hall.replays() ? 1 : 0, 1);
    }

    private static void names() throws IOException {
        about("README.md names each test");
        Path readme = Path.of("README.md");
        Path tests = Path.of("src/test/java");
        if (!Files.exists(readme) || !Files.isDirectory(tests)) {
            System.out.println("(README.md is not here: its names are not looked at)");
            return;
        }
        String text = Files.readString(readme);
        try (var files = Files.list(tests)) {
            for (Path file : files.sorted().toList()) {
                String name = file.getFileName().toString().replace(".java", "");
                is(name, text.contains("`" + name + "`") ? 1 : 0, 1);
            }
        }
    }
}
