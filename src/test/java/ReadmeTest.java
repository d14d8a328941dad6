import java.io.IOException;
import java.lang.reflect.Field;
import java.nio.charset.StandardCharsets;
import java.nio.file.Files;
import java.nio.file.Path;
import java.util.Map;
import java.util.TreeMap;
import java.util.regex.Matcher;
import java.util.regex.Pattern;

/** README.md: its program compiles and prints what stands there, and its numbers are the constants. */
public final class ReadmeTest {
    private static final Pattern ROW = Pattern.compile("(?m)^\\| `(\\w+)` \\| (-?\\d+) \\|");

    public static void main(String[] args) throws IOException, InterruptedException, IllegalAccessException {
        Due due = new Due();
        String readme = Files.readString(Path.of("README.md"));
        same(due, "the program prints", printed(block(readme, "java")), block(readme, "text"));
        same(due, "the constants are", rows(readme).toString(), constants().toString());
        due.end();
    }

    private static void same(Due due, String what, String got, String want) {
        if (!got.equals(want)) {
            due.tell(what + "\n" + got + "\ndue is\n" + want);
        }
    }

    private static String block(String readme, String kind) {
        String fence = "```" + kind + "\n";
        int start = readme.indexOf(fence) + fence.length();
        return readme.substring(start, readme.indexOf("```", start));
    }

    private static String printed(String program) throws IOException, InterruptedException {
        String out = Files.createTempDirectory("readme").toString();
        Path source = Path.of(out, "Example.java");
        Files.writeString(source, program);
        String told = command("javac", "-d", out, "src/main/java/ParallelCommit.java", source.toString())
            + command("java", "-cp", out, "Example");
        for (String file : new String[] {"Example.java", "Example.class", "ParallelCommit.class", ""}) {
            Files.deleteIfExists(Path.of(out, file));
        }
        return told;
    }

    /** All that the command tells, its complaints too. */
    private static String command(String... words) throws IOException, InterruptedException {
        Process process = new ProcessBuilder(words).redirectErrorStream(true).start();
        byte[] told = process.getInputStream().readAllBytes();
        process.waitFor();
        return new String(told, StandardCharsets.UTF_8).replace("\r", "");
    }

    private static Map<String, Integer> rows(String readme) {
        Map<String, Integer> rows = new TreeMap<>();
        Matcher row = ROW.matcher(readme);
        while (row.find()) {
            rows.put(row.group(1), Integer.valueOf(row.group(2)));
        }
        return rows;
    }

    private static Map<String, Integer> constants() throws IllegalAccessException {
        Map<String, Integer> constants = new TreeMap<>();
        for (Field field : ParallelCommit.class.getFields()) {
            constants.put(field.getName(), field.getInt(null));
        }
        return constants;
    }
}
