import java.io.IOException;
import java.nio.file.Files;
import java.nio.file.Path;

/**
 * Runs of src/test/runs with their answers, which were worked out by a second model of the document, written in
 * another language without a look at the first one (Model): what one reading missed, the other may tell.
 */
public final class RecordedTest extends Checks {
  public static void main(String[] args) throws IOException {
    String[] runs = Files.readString(Path.of("src/test/runs/recorded.txt")).strip().split("\n\n");
    for (int k = 0; k < runs.length; k++) run("recorded run " + (k + 1), runs[k].replace('\n', ' '));
    due("how many recorded runs", runs.length, 48);
    end();
  }
}
