import java.io.IOException;
import java.nio.file.Files;
import java.nio.file.Path;
import java.util.ArrayList;
import java.util.List;

/** The document and README.md, read from the project's top folder, where .ci/run starts the tests. */
final class Texts {
    private Texts() {
    }

    static List<String> document() throws IOException {
        return Files.readAllLines(Path.of("..", "shared", "DOC.md"));
    }

    static List<String> readme() throws IOException {
        return Files.readAllLines(Path.of("README.md"));
    }

    /** The lines of all Java code blocks, stripped, without the empty ones. */
    static List<String> code(List<String> text) {
        List<String> lines = new ArrayList<>();
        boolean inside = false;
        for (String line : text) {
            if (line.startsWith("```")) {
                inside = !inside && line.equals("```java");
            } else if (inside && !line.isBlank()) {
                lines.add(line.strip());
            }
        }
        return lines;
    }

    /** The lines of the document's public face, from that of the class to that of its last member. */
    static List<String> face() throws IOException {
        List<String> lines = code(document());
        lines.remove("}");
        return lines;
    }
}
