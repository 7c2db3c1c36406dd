import java.io.IOException;
import java.nio.file.Files;
import java.nio.file.Path;

/** The example of README.md: each of its rows is there as it is here, and answers what is written behind it. */
public final class ReadmeTest {
    private static final Due DUE = new Due();

    public static void main(String[] args) throws IOException {
        String readme = Files.readString(Path.of("README.md"));
        ReadBins x = new ReadBins();
        row(readme, "x.feed(4, 0x54474341L);", x.feed(4, 0x54474341L), 4);
        row(readme, "x.barcode();", x.barcode(), 0);
        row(readme, "feed(x, \"CATG\");", Due.feed(x, "CATG"), 4);
        row(readme, "x.barcode();", x.barcode(), 1);
        row(readme, "feed(x, \"GGTTGG\");", Due.feed(x, "GGTTGG"), 6);
        row(readme, "x.adapter();", x.adapter(), 6);
        row(readme, "x.limits(0, 20, 3);", x.limits(0, 20, 3), true);
        row(readme, "x.told(0);", x.told(0), 4);
        reads(readme, x, "@one\nACGTAACCTAGGTTGG\n+\nIIIIIIIIIIIIIIII\n");
        reads(readme, x, "@two\nACCTATCCTA\n+two\nIIIIIIII#I\n");
        reads(readme, x, "@three\nTTTTAACCTN\n+\nIIIIIIIIII\n");
        row(readme, "x.read(0);", x.read(0), 3);
        row(readme, "x.letter(1, 2, 8);", x.letter(1, 2, 8), 2);
        row(readme, "x.sort(2, 1);", x.sort(2, 1), 1);
        row(readme, "x.about(0, 2);", x.about(0, 2), 0);
        row(readme, "x.about(0, 3);", x.about(0, 3), 6);
        row(readme, "x.about(0, 4);", x.about(0, 4), 10);
        row(readme, "x.bin(0, 0);", x.bin(0, 0), 2);
        row(readme, "x.group(0, 0, 2);", x.group(0, 0, 2), 2);
        row(readme, "x.write(1, 0, true);", x.write(1, 0, true), 10);
        row(readme, "x.out(0);", x.out(0), 62);
        DUE.is("written", Due.written(x, 10), ">one\nCCTA\n");
        row(readme, "x.again();", x.again(), 10);
        row(readme, "x.read(0);", x.read(0), -2);
        row(readme, "x.place();", x.place(), 0);
        DUE.end();
    }

    private static void reads(String readme, ReadBins x, String text) {
        String call = "feed(x, \"" + text.replace("\n", "\\n") + "\");";
        DUE.is("README.md has the row " + call, readme.contains("\n" + call + "\n"), true);
        Due.feed(x, text);
    }

    /** A row has its answer as the first word behind its comment's sign. */
    private static void row(String readme, String call, Object got, Object want) {
        DUE.is(call, "" + got, "" + want);
        boolean stands = readme.lines().anyMatch(line -> line.startsWith(call) && line.matches(".*// " + want + "(:.*)?"));
        DUE.is("README.md has the row " + call + " with " + want, stands, true);
    }
}
