import java.lang.reflect.InvocationTargetException;
import java.lang.reflect.Method;
import java.lang.reflect.Modifier;
import java.nio.file.DirectoryStream;
import java.nio.file.Files;
import java.nio.file.Path;
import java.util.Set;
import java.util.TreeSet;
import java.util.regex.Matcher;
import java.util.regex.Pattern;

/** README.md's calls answer what stands behind them, and it leaves out no call and no test. */
public final class ReadmeTest {
  private static final Pattern BLOCK = Pattern.compile("(?s)```java\\n(.*?)```");
  private static final Pattern CALL = Pattern.compile("x\\.(\\w+)\\(([^)]*)\\); +// (-?\\d+)(:.*)?");
  private static final String NEW = "TollSills x = new TollSills();";

  private final Due due = new Due();
  private final Set<String> shown = new TreeSet<>();
  private TollSills x = null;

  public static void main(String[] args) throws Exception {
    String page = Files.readString(Path.of("README.md"));
    ReadmeTest test = new ReadmeTest();
    Matcher block = BLOCK.matcher(page);
    while (block.find()) {
      test.x = null;
      for (String line : block.group(1).split("\n")) {
        test.line(line);
      }
    }
    test.namesEachCall();
    test.namesEachTest(page);
    test.due.end();
  }

  private void line(String line) throws Exception {
    Matcher call = CALL.matcher(line);
    if (line.equals(NEW)) {
      x = new TollSills();
    } else if (call.matches()) {
      shown.add(call.group(1));
      due.is("README.md: " + line, answer(call.group(1), call.group(2)), Long.parseLong(call.group(3)));
    } else {
      due.is("README.md, no call: " + line, 1, 0);
    }
  }

  private long answer(String name, String told) throws IllegalAccessException, InvocationTargetException {
    String[] numbers = told.isEmpty() ? new String[0] : told.split(", ");
    Object[] arguments = new Object[numbers.length];
    for (int i = 0; i < numbers.length; i++) {
      arguments[i] = Integer.decode(numbers[i]);
    }
    for (Method m : TollSills.class.getMethods()) {
      if (m.getName().equals(name) && m.getParameterCount() == arguments.length) {
        return ((Number) m.invoke(x, arguments)).longValue();
      }
    }
    throw new IllegalArgumentException(name + "(" + told + ")");
  }

  private void namesEachCall() {
    for (Method m : TollSills.class.getDeclaredMethods()) {
      if (Modifier.isPublic(m.getModifiers())) {
        due.is("README.md shows " + m.getName(), shown.contains(m.getName()) ? 1 : 0, 1);
      }
    }
  }

  private void namesEachTest(String page) throws Exception {
    try (DirectoryStream<Path> files = Files.newDirectoryStream(Path.of("tests"), "*Test.java")) {
      for (Path file : files) {
        String name = file.getFileName().toString().replace(".java", "");
        due.is("README.md names " + name, page.contains("`" + name + "`") ? 1 : 0, 1);
      }
    }
    due.is("README.md names .ci/run", page.contains(".ci/run") ? 1 : 0, 1);
  }
}
