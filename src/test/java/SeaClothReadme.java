import java.io.IOException;
import java.lang.reflect.InvocationTargetException;
import java.net.URL;
import java.net.URLClassLoader;
import java.nio.file.Files;
import java.nio.file.Path;
import java.util.ArrayList;
import java.util.Comparator;
import java.util.List;
import java.util.regex.Matcher;
import java.util.regex.Pattern;
import java.util.stream.Stream;

/**
 * The examples of README.md: each call there has its answer behind it. They are written into a class
 * of their own, which is compiled and run.
 */
public final class SeaClothReadme {
  private static final Pattern ANSWERED =
      Pattern.compile("\\s*(.*);\\s*// (?:(-?\\d+|true|false)|throws (\\w+))(?::.*)?");
  private static final int LEAST_CHECKS = 50;

  private final List<String> members = new ArrayList<>();
  private final List<String> examples = new ArrayList<>();
  private int checks = 0;
  private int wrong = 0;

  public static void main(String[] args) throws IOException, InterruptedException, ReflectiveOperationException {
    SeaClothReadme readme = new SeaClothReadme();
    readme.read(Files.readAllLines(Path.of(System.getProperty("seacloth.readme", "README.md"))));
    readme.run();
    System.out.println(readme.checks + " answers of README.md, " + readme.wrong + " wrong");
    if (readme.wrong != 0) {
      System.exit(1);
    }
  }

  private void fault(String what) {
    wrong++;
    System.out.println(what);
  }

  private void read(List<String> lines) {
    boolean inside = false;
    boolean isMember = false;
    for (int n = 0; n < lines.size(); n++) {
      String line = lines.get(n);
      if (line.startsWith("```")) {
        inside = !inside && line.equals("```java");
        isMember = inside && n + 1 < lines.size() && lines.get(n + 1).startsWith("static ");
        if (inside && !isMember) {
          examples.add("");
        }
      } else if (inside && isMember) {
        members.add(line);
      } else if (inside) {
        int last = examples.size() - 1;
        examples.set(last, examples.get(last) + checked(line, n + 1) + "\n");
      }
    }
    if (checks < LEAST_CHECKS) {
      fault("only " + checks + " answers were found");
    }
  }

  /** A line of an example, with a look at its answer. */
  private String checked(String line, int number) {
    Matcher m = ANSWERED.matcher(line);
    if (!m.matches()) {
      if (line.contains("//")) {
        fault("line " + number + " has no answer that can be looked at: " + line);
      }
      return line;
    }
    checks++;
    String call = m.group(1);
    String shown = "\"line " + number + ": " + call.replace("\"", "\\\"") + "\"";
    if (m.group(3) != null) {
      return "try { " + call + "; wrong(" + shown + ", \"nothing\"); } catch (java.util." + m.group(3) + " e) { }";
    }
    return "due(" + shown + ", " + call + ", " + m.group(2) + ");";
  }

  private String source() {
    StringBuilder s = new StringBuilder("public final class ReadmeExamples {\n");
    s.append("static int faults = 0;\n");
    s.append("static void wrong(String what, String got) { faults++;"
        + " System.out.println(what + \" answered \" + got); }\n");
    s.append("static void due(String what, long got, long want) { if (got != want) wrong(what, \"\" + got); }\n");
    s.append("static void due(String what, boolean got, boolean want) { if (got != want) wrong(what, \"\" + got); }\n");
    for (String line : members) {
      s.append(line).append('\n');
    }
    for (int n = 0; n < examples.size(); n++) {
      s.append("static void example").append(n).append("() {\n").append(examples.get(n)).append("}\n");
    }
    s.append("public static int run() {\n");
    for (int n = 0; n < examples.size(); n++) {
      s.append("example").append(n).append("();\n");
    }
    return s.append("return faults;\n}\n}\n").toString();
  }

  private void run() throws IOException, InterruptedException, ReflectiveOperationException {
    Path out = Files.createTempDirectory("seacloth-readme");
    try {
      Path file = out.resolve("ReadmeExamples.java");
      Files.writeString(file, source());
      int code = new ProcessBuilder("javac", "--release", "17", "-cp", System.getProperty("java.class.path"),
          "-d", out.toString(), file.toString()).inheritIO().start().waitFor();
      if (code != 0) {
        fault("the examples of README.md are no Java");
        return;
      }
      try (URLClassLoader loader = new URLClassLoader(new URL[] {out.toUri().toURL()})) {
        wrong += (Integer) loader.loadClass("ReadmeExamples").getMethod("run").invoke(null);
      } catch (InvocationTargetException e) {
        fault("an example threw " + e.getCause());
      }
    } finally {
      remove(out);
    }
  }

  private static void remove(Path directory) throws IOException {
    try (Stream<Path> found = Files.walk(directory)) {
      for (Path p : found.sorted(Comparator.reverseOrder()).toList()) {
        Files.delete(p);
      }
    }
  }
}
