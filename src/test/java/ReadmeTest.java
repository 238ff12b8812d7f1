import java.io.IOException;
import java.nio.file.Files;
import java.nio.file.Path;
import java.util.List;
import java.util.stream.Collectors;

/** README.md's example: it stands here line by line, and does what it says. */
public final class ReadmeTest {
  public static void main(String[] args) throws IOException {
    Check.due("the example of README.md is the one below", true, mine().contains(example()));
    MeterSheet sheet = new MeterSheet();
    sheet.feed(5, 0x0101716572L);             // "req", byte 1, no unit, byte 1, no help
    int requests = sheet.family(0);           // a counter
    sheet.feed(4, 0x02310161L);               // the label set a="1"
    int child = sheet.child(requests);
    sheet.add(child, 2500, false);            // 2.5
    int size = sheet.write(0, 0);             // # TYPE req counter, req_total{a="1"} 2.5, ..., # EOF
    long first = sheet.text(0);               // the first eight bytes
    sheet.copy();                             // the tape becomes what was written,
    int fault = sheet.read();                 // and is read again: 0 without a fault
    boolean same = sheet.same();              // true
    Check.due("what is written",
        "# TYPE req counter\nreq_total{a=\"1\"} 2.5\nreq_created{a=\"1\"} 0\n# EOF\n", Check.latest(sheet));
    Check.due("how many bytes", Check.latest(sheet).length(), size);
    Check.due("its first eight", 0x7220455059542023L, first);
    Check.due("without a fault", 0, fault);
    Check.due("same", true, same);
    Check.end();
  }

  /** The lines of the block of Java in README.md, without the white space before them. */
  private static String example() throws IOException {
    List<String> lines = lines("README.md");
    int start = lines.indexOf("```java") + 1;
    int count = lines.subList(start, lines.size()).indexOf("```");
    return String.join("\n", lines.subList(start, start + count));
  }

  private static String mine() throws IOException {
    return String.join("\n", lines("src/test/java/ReadmeTest.java"));
  }

  private static List<String> lines(String file) throws IOException {
    return Files.readAllLines(Path.of(file)).stream().map(String::strip).collect(Collectors.toList());
  }
}
