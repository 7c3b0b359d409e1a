import java.io.IOException;
import java.nio.file.Files;
import java.nio.file.Path;

/** The example of README.md: its calls stand here in the same order, with the same answers. */
public final class ReadmeTest {
    private static String readme;

    private ReadmeTest() {
    }

    public static void main(String[] args) throws IOException {
        readme = Files.readString(Path.of("README.md"));
        ReplayLink link = new ReplayLink();
        told("draft(0, 2, 0x0201)", link.draft(0, 2, 0x0201), 2);
        told("offer(0)", link.offer(0), 1);
        told("tick(1)", link.tick(1), 0);
        told("bend(0, 0, 3, 0x80)", link.bend(0, 0, 3, 0x80), 129);
        told("settle(100)", link.settle(100), 5);
        told("up(1, 0)", link.up(1, 0), 2);
        told("upByte(1, 0, 1)", link.upByte(1, 0, 1), 2);
        Due.finish();
    }

    private static void told(String call, int got, int want) {
        Due.is(call, got, want);
        boolean stands = readme.lines().anyMatch(line -> line.startsWith("link." + call + "; ")
                && line.contains("// " + want + ": "));
        Due.is("README.md tells " + call, stands ? 1 : 0, 1);
    }
}
