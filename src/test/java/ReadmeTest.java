import java.io.IOException;
import java.nio.file.Files;
import java.nio.file.Path;
import java.util.List;

/** What README.md says of the use of the class: its example, and a row for each call of the face. */
public final class ReadmeTest {
    private static final Check check = new Check();
    private static final String[] CALLS = {
        "instantiate(r, type, n)", "set(r, v)", "register(r)", "fetch(o, k)", "store(o, k, v)", "type(o)", "fields(o)",
        "become(a, b)", "collect()", "compact()", "exists(o)", "count(o)", "address(o)", "chunks(words)", "free()",
        "objects()"};

    public static void main(String[] args) throws IOException {
        exampleAnswersAsTold();
        List<String> lines = Files.readAllLines(Path.of("README.md"));
        for (String call : CALLS) {
            check.due("rows that tell " + call, rowsThatTell(lines, call), 1);
        }
        check.end();
    }

    private static void exampleAnswersAsTold() {
        CountedObjects memory = new CountedObjects(100, 10);
        int point = memory.instantiate(0, 0, 2);
        memory.store(point, 0, 7);
        int line = memory.instantiate(1, 0, 1);
        memory.store(line, 0, point);
        memory.set(0, 0);
        check.due("the line still refers to the point", memory.count(point), 1);
        memory.set(1, 0);
        check.due("the line is let go, and the point with it", memory.objects(), 0);
    }

    private static long rowsThatTell(List<String> lines, String call) {
        return lines.stream().filter(line -> line.startsWith("| ") && line.contains("`" + call + "`")).count();
    }
}
