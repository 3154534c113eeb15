import java.io.IOException;
import java.nio.file.Files;
import java.nio.file.Path;
import java.util.ArrayList;
import java.util.List;
import java.util.TreeSet;
import java.util.stream.Stream;

/**
 * The document's sentences that name an edge, each with runs of its own, as src/test/edges tells them. And of each
 * run: what is refused in it, or found, changes nothing, so all that can be asked is as without it.
 */
public final class EdgesTest {
    private static final Path EDGES = Path.of("src/test/edges"), DOCUMENT = Path.of("../shared/DOC.md");
    private static final int PROMISES = 31;

    private final List<Script> probes = new ArrayList<>();
    private final TreeSet<String> promises = new TreeSet<>();
    private final String document;

    private EdgesTest() throws IOException {
        document = Files.exists(DOCUMENT) ? oneLine(Files.readString(DOCUMENT)) : "";
        probes.add(looks());
        probes.add(takenBack());
        probes.add(looks("restore 0"));
        probes.add(looks("restore 1"));
        probes.add(looks("glass"));
        for (int row = 0; row < 8; row++) {
            probes.add(Script.of("set " + row + " 0 -40000", "drop " + row));
            itemsOf(row);
        }
    }

    public static void main(String[] args) throws IOException {
        EdgesTest test = new EdgesTest();
        List<Path> files;
        try (Stream<Path> there = Files.list(EDGES)) {
            files = there.sorted().toList();
        }
        for (Path file : files) {
            test.runAll(Files.readAllLines(file));
        }
        for (int promise = 1; promise <= PROMISES; promise++) {
            Due.is("edges of promise " + promise, test.promises.contains("" + promise) ? 1 : 0, 1);
        }
        Due.end();
    }

    private void runAll(List<String> lines) {
        String title = "no title";
        int runs = 1;
        Script script = new Script();
        for (String line : lines) {
            boolean begins = line.startsWith("==");
            if (begins || line.equals("--")) {
                runs += finish(title, script);
                script = new Script();
            } else if (!line.isBlank() && !line.startsWith("#")) {
                script.add(line);
            }
            if (begins) {
                Due.is(title + " has a run", Math.min(1, runs), 1);
                title = line.substring(2).trim();
                runs = 0;
                quoted(title);
            }
        }
        runs += finish(title, script);
        Due.is(title + " has a run", Math.min(1, runs), 1);
    }

    private void quoted(String title) {
        String[] parts = title.split(" \\| ");
        promises.add(parts[0].split(" ")[0]);
        boolean stands = document.isEmpty() || document.contains(oneLine(parts[1]));
        Due.is("the document says: " + parts[1], stands ? 1 : 0, 1);
    }

    private static String oneLine(String text) {
        return text.replaceAll("\\s+", " ").trim();
    }

    /** How many runs there were. */
    private int finish(String title, Script script) {
        if (script.isEmpty()) {
            return 0;
        }
        script.run(title);
        if (script.hasRefused()) {
            refusedChangesNothing(title, script);
        }
        return 1;
    }

    private void refusedChangesNothing(String title, Script script) {
        Script without = script.withoutRefused();
        for (Script probe : probes) {
            int[] got = script.answersBehind(probe);
            int[] due = without.answersBehind(probe);
            for (int i = 0; i < got.length; i++) {
                String call = probe.call(i);
                boolean changes = call.equals("status") && script.hasFinding()
                    || call.equals("fault") && script.hasFault();
                Due.is(title + ": nothing changes, seen by " + call, changes ? due[i] : got[i], due[i]);
            }
        }
    }

    private static Script looks(String... ahead) {
        Script s = Script.of(ahead);
        s.add("status");
        s.add("fault");
        for (int what = 0; what <= 9; what++) {
            s.add("count " + what);
        }
        for (int toy = 0; toy < 7; toy++) {
            for (int what = 0; what <= 4; what++) {
                s.add("toy " + toy + " " + what);
            }
            s.add("kind " + toy);
        }
        for (int column = 1; column <= 5; column++) {
            s.add("column " + column + " 1");
            s.add("gives " + column);
        }
        for (int i = 0; i <= 16; i++) {
            s.add("trace " + i);
        }
        return s;
    }

    private static Script takenBack() {
        Script s = new Script();
        for (int i = 0; i < 25; i++) {
            s.add("undo");
            for (int what = 2; what <= 8; what++) {
                s.add("count " + what);
            }
            for (int column = 1; column <= 5; column++) {
                s.add("column " + column + " 1");
            }
        }
        return s;
    }

    /** An item is seen by fits(): of cases in which toy 0 comes to each place by the first play of the round. */
    private void itemsOf(int row) {
        String[] texts = {"g9,9,1;b1,1;", "g0,0,1;b1,1;", "g0,0,1;b1,2;", "g0,0,1;b1,3;", "g0,0,1;b1,4;", "g0,0,1;b1,5;"};
        for (String text : texts) {
            Script s = Script.of("glass", "text " + text);
            for (int i = 0; i <= 40; i++) {
                s.add("fits 0 " + row + " " + i + " 1 1");
            }
            probes.add(s);
        }
    }
}
