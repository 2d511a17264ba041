import java.io.IOException;
import java.nio.file.Files;
import java.nio.file.Path;
import java.util.ArrayList;
import java.util.List;

/** README.md: its Java is the Java that runs here, and finds what README.md says. */
public final class ReadmeTest {
    private static final String BEGIN = "        // README.md begins";
    private static final String END = "        // README.md ends";

    private static List<String> blocks(List<String> readme, String fence) {
        List<String> lines = new ArrayList<>();
        boolean inside = false;
        boolean wanted = false;
        for (String line : readme) {
            if (line.startsWith("```")) {
                inside = !inside;
                wanted = inside && line.equals(fence);
            } else if (wanted) {
                lines.add(line);
            }
        }
        return lines;
    }

    private static List<String> linesRunHere() throws IOException {
        List<String> source = Files.readAllLines(Path.of("src/test/java/ReadmeTest.java"));
        List<String> lines = new ArrayList<>();
        for (String line : source.subList(source.indexOf(BEGIN) + 1, source.indexOf(END))) {
            lines.add(line.substring(8));
        }
        return lines;
    }

    private static void example(String readme, List<String> nodesTold) {
        // README.md begins
        MarkupTreeBuilder builder = new MarkupTreeBuilder(256, 64, 256);
        String markup = "<b id=\"x\">1<p>2</b>3<i>4";
        boolean taken = true;
        for (int i = 0; i < markup.length(); i++) {
            taken &= builder.feed(markup.charAt(i));
        }
        int status = builder.parse();
        StringBuilder serialization = new StringBuilder();
        for (int k = 0; k < builder.serialLength(); k++) {
            serialization.append(builder.serialChar(k));
        }
        StringBuilder nodes = new StringBuilder();
        for (int n = 0; n < builder.nodeCount(); n++) {
            nodes.append(n).append(": kind ").append(builder.nodeKind(n));
            nodes.append(", parent ").append(builder.nodeParent(n)).append(", children");
            for (int k = 0; builder.nodeChild(n, k) != -1; k++) {
                nodes.append(' ').append(builder.nodeChild(n, k));
            }
            nodes.append(", data [");
            for (int k = 0; k < builder.dataLength(n); k++) {
                nodes.append(builder.dataChar(n, k));
            }
            nodes.append("]\n");
        }
        StringBuilder open = new StringBuilder();
        for (int i = 0; i < builder.stackSize(); i++) {
            open.append(' ').append(builder.stackNode(i));
        }
        StringBuilder active = new StringBuilder();
        for (int i = 0; i < builder.listSize(); i++) {
            active.append(' ').append(builder.listEntry(i));
        }
        builder.reset();
        // README.md ends
        Check.due("every character taken", taken, true);
        Check.due("status", status, MarkupTreeBuilder.DONE);
        Check.due("README.md tells " + serialization, readme.contains("Here it is `" + serialization + "`."), true);
        Check.due("nodes", nodes.toString(), String.join("\n", nodesTold) + "\n");
        Check.due("README.md tells the stack" + open, readme.contains("here `" + open + "`. The list"), true);
        Check.due("README.md tells the list" + active, readme.contains("here `" + active + "`. A -1"), true);
        Check.due("after reset", Check.everything(builder), Check.everything(Check.large()));
    }

    public static void main(String[] args) throws IOException {
        List<String> readme = Files.readAllLines(Path.of("README.md"));
        String java = String.join("\n", blocks(readme, "```java"));
        Check.due("the Java of README.md", java, String.join("\n", linesRunHere()));
        example(String.join(" ", readme), blocks(readme, "```"));
        Check.end();
    }
}
