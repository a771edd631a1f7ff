import java.io.ByteArrayOutputStream;
import java.io.PrintStream;
import java.net.URL;
import java.net.URLClassLoader;
import java.nio.charset.StandardCharsets;
import java.nio.file.Files;
import java.nio.file.Path;
import java.util.ArrayList;
import java.util.List;
import java.util.regex.Matcher;
import java.util.regex.Pattern;
import javax.tools.ToolProvider;

/** The program in README.md compiles, and prints what stands behind each of its lines. */
public final class ReadmeTest {
  private static final Path FOLDER = Path.of("build/readme");

  private ReadmeTest() {}

  public static void main(String[] args) throws Exception {
    String readme = Files.readString(Path.of("README.md"));
    Matcher block = Pattern.compile("(?s)```java\n(.*?)```").matcher(readme);
    Check.due("README.md has a program", block.find(), true);
    String program = block.group(1);
    List<String> got = printed(program);
    List<String> want = new ArrayList<>();
    Matcher line = Pattern.compile("println\\(.*\\);\\s*// ([^:\n]+): ").matcher(program);
    while (line.find()) {
      want.add(line.group(1));
    }
    Check.due("lines that tell their answer", want.size(), program.split("println").length - 1);
    Check.due("lines printed", got.size(), want.size());
    for (int i = 0; i < Math.min(got.size(), want.size()); i++) {
      String call = "line " + i + " is '" + got.get(i) + "', README.md says '" + want.get(i) + "'";
      Check.due(call, got.get(i).equals(want.get(i)), true);
    }
    tests(readme);
    Check.end("ReadmeTest");
  }

  private static List<String> printed(String program) throws Exception {
    Files.createDirectories(FOLDER);
    Path source = FOLDER.resolve("Example.java");
    Files.writeString(source, program);
    int failed = ToolProvider.getSystemJavaCompiler().run(null, null, null, "--release", "17",
        "-cp", System.getProperty("java.class.path"), "-d", FOLDER.toString(), source.toString());
    Check.due("it compiles", failed, 0);
    PrintStream out = System.out;
    ByteArrayOutputStream bytes = new ByteArrayOutputStream();
    URL[] where = {FOLDER.toUri().toURL()};
    try (URLClassLoader loader = new URLClassLoader(where)) {
      System.setOut(new PrintStream(bytes, true, StandardCharsets.UTF_8));
      loader.loadClass("Example").getMethod("main", String[].class)
          .invoke(null, (Object) new String[0]);
    } finally {
      System.setOut(out);
    }
    return bytes.toString(StandardCharsets.UTF_8).lines().toList();
  }

  private static void tests(String readme) throws Exception {
    try (var all = Files.list(Path.of("src/test/java"))) {
      for (Path test : all.filter(p -> p.toString().endsWith("Test.java")).sorted().toList()) {
        String name = test.getFileName().toString().replace(".java", "");
        Check.due("README.md names " + name, readme.contains("| `" + name + "` |"), true);
      }
    }
  }
}
