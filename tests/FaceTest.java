import java.lang.reflect.Constructor;
import java.lang.reflect.Field;
import java.lang.reflect.Method;
import java.lang.reflect.Modifier;
import java.nio.file.Files;
import java.nio.file.Path;
import java.util.ArrayList;
import java.util.List;
import java.util.Set;
import java.util.TreeSet;
import java.util.regex.Matcher;
import java.util.regex.Pattern;

/** The public face is the document's, in its order and groups, and nothing else can be seen. */
public final class FaceTest {
  private static final Due due = new Due();

  public static void main(String[] args) throws Exception {
    faceIsTheDocuments();
    membersAreHidden();
    namesAreNotUsedTwice();
    callsStandAsInTheDocument();
    due.end();
  }

  private static void faceIsTheDocuments() throws Exception {
    Set<String> told = new TreeSet<>();
    Matcher line = Pattern.compile("(?m)^    public (\\w+) (\\w+)\\((.*)\\);$")
        .matcher(Files.readString(Path.of("../shared/DOC.md")));
    while (line.find()) {
      told.add(line.group(1) + " " + line.group(2) + "(" + line.group(3).replaceAll(" \\w+(, )?", "$1") + ")");
    }
    Set<String> there = new TreeSet<>();
    for (Method m : TollSills.class.getDeclaredMethods()) {
      if (Modifier.isPublic(m.getModifiers())) {
        StringBuilder types = new StringBuilder();
        for (Class<?> type : m.getParameterTypes()) {
          types.append(types.length() == 0 ? "" : ", ").append(type.getName());
        }
        there.add(m.getReturnType().getName() + " " + m.getName() + "(" + types + ")");
        due.is(m.getName() + " is no static one", Modifier.isStatic(m.getModifiers()) ? 1 : 0, 0);
      }
    }
    System.out.println("not alike: " + difference(told, there));
    due.is("methods of the document", told.size(), 44);
    due.is("methods of the class", difference(told, there).size(), 0);
    due.is("class is public and final", TollSills.class.getModifiers(), Modifier.PUBLIC | Modifier.FINAL);
  }

  private static Set<String> difference(Set<String> a, Set<String> b) {
    Set<String> all = new TreeSet<>(a);
    all.addAll(b);
    Set<String> both = new TreeSet<>(a);
    both.retainAll(b);
    all.removeAll(both);
    return all;
  }

  private static void membersAreHidden() {
    for (Method m : TollSills.class.getDeclaredMethods()) {
      int shown = m.getModifiers() & (Modifier.PUBLIC | Modifier.PRIVATE);
      due.is(m.getName() + " is public or private", shown == 0 && !m.isSynthetic() ? 1 : 0, 0);
    }
    for (Field f : TollSills.class.getDeclaredFields()) {
      due.is(f.getName() + " is private", Modifier.isPrivate(f.getModifiers()) ? 1 : 0, 1);
      due.is(f.getName() + " is no static state",
          Modifier.isStatic(f.getModifiers()) && !Modifier.isFinal(f.getModifiers()) ? 1 : 0, 0);
    }
    Constructor<?>[] all = TollSills.class.getDeclaredConstructors();
    due.is("one constructor", all.length, 1);
    due.is("without parameters", all[0].getParameterCount(), 0);
    due.is("a public one", all[0].getModifiers(), Modifier.PUBLIC);
    for (Class<?> c : TollSills.class.getDeclaredClasses()) {
      due.is(c.getName() + " is static", Modifier.isStatic(c.getModifiers()) ? 1 : 0, 1);
      due.is(c.getName() + " is not public",
          Modifier.isPublic(c.getModifiers()) || Modifier.isProtected(c.getModifiers()) ? 1 : 0, 0);
    }
  }

  private static void namesAreNotUsedTwice() {
    Set<String> open = new TreeSet<>();
    for (Method m : TollSills.class.getDeclaredMethods()) {
      if (Modifier.isPublic(m.getModifiers())) {
        due.is(m.getName() + " is one method", open.add(m.getName()) ? 1 : 0, 1);
      }
    }
    for (Method m : TollSills.class.getDeclaredMethods()) {
      if (!Modifier.isPublic(m.getModifiers())) {
        due.is(m.getName() + " is another name", open.contains(m.getName()) ? 1 : 0, 0);
      }
    }
    for (Class<?> c : TollSills.class.getDeclaredClasses()) {
      for (Method m : c.getDeclaredMethods()) {
        due.is(m.getName() + " inside is another name", open.contains(m.getName()) ? 1 : 0, 0);
        due.is(m.getName() + " has few parameters", m.getParameterCount() <= 7 ? 1 : 0, 1);
      }
    }
  }

  private static List<String> names(String text, String pattern) {
    List<String> names = new ArrayList<>();
    Matcher m = Pattern.compile(pattern).matcher(text);
    while (m.find()) {
      names.add(m.group(1));
    }
    return names;
  }

  private static void callsStandAsInTheDocument() throws Exception {
    String document = Files.readString(Path.of("../shared/DOC.md"));
    String source = Files.readString(Path.of("src/main/java/TollSills.java"));
    List<String> told = names(document, "(?m)^    public \\w+ (\\w+)\\(.*\\);$");
    List<String> written = names(source, "(?m)^  public \\w+ (\\w+)\\(.*\\) \\{$");
    due.is("calls in the document's order", told.equals(written) ? 1 : 0, 1);
    int calls = 0;
    Matcher group = Pattern.compile("(?m)^Ahead of the calls (.*) the interface says: (---- .*)\\.$").matcher(document);
    while (group.find()) {
      List<String> ahead = names(group.group(1), "`(\\w+)`");
      int begin = source.indexOf("  // " + group.group(2) + "\n");
      int end = source.indexOf("  // ----", begin + 1);
      boolean there = begin >= 0 && end > begin;
      List<String> under = names(there ? source.substring(begin, end) : "", "(?m)^  public \\w+ (\\w+)\\(");
      due.is("calls under " + group.group(2), under.equals(ahead) ? 1 : 0, 1);
      calls += ahead.size();
    }
    due.is("calls in groups", calls, 44);
  }
}
