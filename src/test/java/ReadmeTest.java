import java.lang.reflect.Field;
import java.lang.reflect.Method;
import java.net.URL;
import java.net.URLClassLoader;
import java.nio.charset.StandardCharsets;
import java.nio.file.Files;
import java.nio.file.Path;
import java.util.Collections;
import java.util.Comparator;
import java.util.regex.Matcher;
import java.util.regex.Pattern;
import java.util.stream.Stream;
import javax.tools.ToolProvider;

/** README.md tells the truth: its rows of Java are compiled and run, and it names every call and every constant. */
public final class ReadmeTest {
  private static final Pattern ROW = Pattern.compile("(?m)^(\\w[^;\n]*\\));\\s*// (-?\\d+|[A-Z]+)(?::.*)?$");
  private static final Pattern ANY_ROW = Pattern.compile("(?m)^(x|y|textOf)\\b[^\n]*$");

  private static int wrong = 0;
  private static int asked = 0;

  /** The rows of the page call this one. */
  public static void due(String call, int got, int want) {
    asked++;
    if (got != want) fails(call + " answered " + got + ", README.md says " + want);
  }

  private static void fails(String how) {
    wrong++;
    System.out.println(how);
  }

  public static void main(String[] args) throws Exception {
    String page = Files.readString(Path.of("README.md"), StandardCharsets.UTF_8);
    names(page);
    run(source(page));
    if (asked == 0) fails("README.md has no rows of Java");
    System.out.println(wrong == 0 ? "README.md: " + asked + " answers are as told" : wrong + " things are not as told");
    if (wrong != 0) System.exit(1);
  }

  private static void names(String page) {
    for (Method m : LittlePot.class.getMethods()) {
      if (m.getDeclaringClass() != LittlePot.class) continue;
      String takes = String.join(", ", Collections.nCopies(m.getParameterCount(), "\\w+"));
      Pattern call = Pattern.compile("(?m)^\\|[^|\n]*`" + m.getName() + "\\(" + takes + "\\)`");
      if (!call.matcher(page).find()) fails("no table of README.md names " + m.getName());
    }
    for (Field f : LittlePot.class.getFields())
      if (!page.contains("| `" + f.getName() + "` |")) fails("no table of README.md names " + f.getName());
  }

  /** The page's blocks as one class: methods beside main, all other rows in it, in their order. */
  private static String source(String page) {
    StringBuilder methods = new StringBuilder();
    StringBuilder rows = new StringBuilder();
    Matcher block = Pattern.compile("(?s)```java\n(.*?)```").matcher(page);
    while (block.find()) {
      String code = block.group(1);
      if (code.startsWith("static")) {
        methods.append(code);
        continue;
      }
      Matcher any = ANY_ROW.matcher(code);
      while (any.find()) if (!ROW.matcher(any.group()).matches()) fails("no answer stands behind " + any.group());
      rows.append(ROW.matcher(code).replaceAll(ReadmeTest::asked));
    }
    return "public class ReadmeRows {\n" + methods + "public static void main(String[] args) {\n" + rows + "}\n}\n";
  }

  private static String asked(java.util.regex.MatchResult row) {
    String want = row.group(2).matches("[A-Z]+") ? "LittlePot." + row.group(2) : row.group(2);
    String shown = row.group(1).replace("\"", "'");
    return Matcher.quoteReplacement("ReadmeTest.due(\"" + shown + "\", " + row.group(1) + ", " + want + ");");
  }

  private static void run(String source) throws Exception {
    Path dir = Files.createTempDirectory("readme");
    try {
      Path file = dir.resolve("ReadmeRows.java");
      Files.writeString(file, source);
      int ended = ToolProvider.getSystemJavaCompiler().run(null, null, null,
          "-cp", System.getProperty("java.class.path"), "-d", dir.toString(), file.toString());
      if (ended != 0) {
        fails("the rows of README.md do not compile");
        return;
      }
      try (URLClassLoader loader = new URLClassLoader(new URL[] {dir.toUri().toURL()}, ReadmeTest.class.getClassLoader())) {
        Method main = loader.loadClass("ReadmeRows").getMethod("main", String[].class);
        main.invoke(null, (Object) new String[0]);
      }
    } finally {
      try (Stream<Path> all = Files.walk(dir)) {
        all.sorted(Comparator.reverseOrder()).forEach(p -> p.toFile().delete());
      }
    }
  }
}
