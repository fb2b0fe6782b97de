import java.io.File;
import java.io.IOException;
import java.lang.reflect.Method;
import java.lang.reflect.Modifier;
import java.nio.file.Files;
import java.nio.file.Path;

/** The example of README.md runs as it stands and prints what is told there; all calls are told. */
public final class FerryBellsReadme {

  static int wrong = 0;

  static void check(String what, boolean good) {
    if (!good) {
      wrong++;
      System.out.println("wrong: " + what);
    }
  }

  /** What stands between a line that opens a block of this kind and the one that closes it. */
  static String block(String text, String kind) {
    String open = "```" + kind + "\n";
    int start = text.indexOf(open);
    int end = start < 0 ? -1 : text.indexOf("```", start + open.length());
    check("a block of " + kind, end >= 0);
    return end < 0 ? "" : text.substring(start + open.length(), end);
  }

  static String run(Path in, String... command) throws IOException, InterruptedException {
    Process process = new ProcessBuilder(command).directory(in.toFile()).redirectErrorStream(true)
        .start();
    String said = new String(process.getInputStream().readAllBytes());
    check(String.join(" ", command) + " ends well:\n" + said, process.waitFor() == 0);
    return said;
  }

  static void example(String readme) throws IOException, InterruptedException {
    Path in = Files.createTempDirectory("readme");
    Path source = in.resolve("Morning.java");
    Path out = in.resolve("out");
    Files.writeString(source, block(readme, "java"));
    String program = Path.of("src/main/java/FerryBells.java").toAbsolutePath().toString();
    run(in, "javac", "-d", "out", program, "Morning.java");
    String said = run(in, "java", "-cp", "out", "Morning");
    String told = block(readme, "text");
    check("the example prints\n" + said + "told is\n" + told,
        said.replace(System.lineSeparator(), "\n").equals(told));
    remove(in.toFile());
    check("nothing is left of " + out, !Files.exists(out));
  }

  static void remove(File file) {
    File[] inside = file.listFiles();
    if (inside != null) {
      for (File each : inside) {
        remove(each);
      }
    }
    file.delete();
  }

  static void calls(String readme) {
    for (Method m : FerryBells.class.getDeclaredMethods()) {
      if (Modifier.isPublic(m.getModifiers())) {
        String[] rows = readme.split("\n\\| `" + m.getName() + "\\(", -1);
        check("one row for " + m.getName(), rows.length == 2);
        if (rows.length == 2) {
          String arguments = rows[1].substring(0, rows[1].indexOf(')'));
          int n = arguments.isEmpty() ? 0 : arguments.split(",").length;
          check("the arguments of " + m.getName(), n == m.getParameterCount());
        }
      }
    }
  }

  /** Each test of the project is told by its name. */
  static void tests(String readme) {
    File[] files = new File("src/test/java").listFiles();
    check("tests", files != null && files.length > 0);
    if (files != null) {
      for (File file : files) {
        String name = file.getName().replace(".java", "");
        check(name + " is told", readme.contains("- `" + name + "`:"));
      }
    }
  }

  public static void main(String[] args) throws Exception {
    String readme = Files.readString(Path.of("README.md"));
    example(readme);
    calls(readme);
    tests(readme);
    System.out.println(wrong == 0 ? "README.md is as told" : wrong + " things are not as told");
    if (wrong != 0) {
      System.exit(1);
    }
  }
}
