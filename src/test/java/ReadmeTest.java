import java.io.IOException;
import java.nio.file.Files;
import java.nio.file.Path;

/** The calls that README.md shows: they stand there as they are made here, and answer as it says. */
public final class ReadmeTest {
    public static void main(String[] args) throws IOException {
        Check check = new Check("the page");
        RelayHut hut = new RelayHut();
        check.due("feed", hut.feed(0x6b657920, 0x6b3b7265, 0x6c617920, 0x723d6b3b, 0x6c616d70), 20);
        check.due("feed", hut.feed(0x206c3d72, 0x3b202020, 0x20202020, 0x20202020, 0x20202020), 40);
        check.due("read", hut.read(), 0);
        check.due("settles", hut.settles(-1, -1, 1, 0), 1);
        check.due("least", hut.least(1), 1);
        String page = Files.readString(Path.of("README.md"));
        for (String call : new String[] {
            "hut.feed(0x6b657920, 0x6b3b7265, 0x6c617920, 0x723d6b3b, 0x6c616d70);",
            "hut.feed(0x206c3d72, 0x3b202020, 0x20202020, 0x20202020, 0x20202020);",
            "hut.read();", "hut.settles(-1, -1, 1, 0);", "hut.least(1);"}) {
            check.due("the page shows " + call, page.contains(call), true);
        }
        check.end();
    }
}
