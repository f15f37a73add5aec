import java.io.IOException;
import java.nio.file.Files;
import java.nio.file.Path;
import java.util.LinkedHashMap;
import java.util.List;
import java.util.Map;
import java.util.function.Supplier;
import java.util.function.ToLongFunction;
import java.util.regex.Matcher;
import java.util.regex.Pattern;

/**
 * Boundary cases under the document's own words: each group of answers quotes the sentence that it
 * holds to, and in the end no word of "What it is", of Terms 1 to 3 and of promises 1 to 45 may be
 * without one.
 */
final class Edges {
  /** A call with one number left open. */
  interface Call {
    long of(TollSills x, int v);
  }

  private final Due due = new Due();
  private final Map<String, String> told = new LinkedHashMap<>();
  private final Map<String, String> left = new LinkedHashMap<>();
  private String section = "";
  private String sentence = "";
  private int answers = 1;

  Edges(Path document) throws IOException {
    String text = Files.readString(document);
    put("What it is", between(text, "## What it is\n", "\n## "));
    String terms = between(text, "## Terms\n", "\nAhead of the calls");
    put("Terms", between(terms, "", "\n1. "));
    put("Terms 1", between(terms, "\n1. ", "\n2. "));
    put("Terms 2", between(terms, "\n2. ", "\n3. "));
    put("Terms 3", between(terms, "\n3. ", ""));
    Matcher promise = Pattern.compile("(?ms)^## (Promise \\d+): \\w[^\\n]*\\n\\s*`[^`]*`: (.*?)(?=^## )").matcher(text);
    while (promise.find()) {
      put(promise.group(1), promise.group(2));
    }
    due.is("sections", told.size(), 50);
  }

  private static String between(String text, String begin, String end) {
    int from = text.indexOf(begin) + begin.length();
    int to = end.isEmpty() ? text.length() : text.indexOf(end, from);
    return text.substring(from, to);
  }

  private void put(String name, String words) {
    String plain = words.replaceAll("```(text)?", " ").replaceAll("\\s+", " ").trim();
    told.put(name, plain);
    left.put(name, plain);
  }

  void section(String name) {
    section = name;
    due.is(name + " is a section", told.containsKey(name) ? 1 : 0, 1);
  }

  /** The words of the section that the next answers hold to. */
  void says(String words) {
    due.is(section + ", " + sentence + ": answers", answers > 0 ? 1 : 0, 1);
    sentence = words;
    answers = 0;
    due.is(section + " says <" + words + ">", told.getOrDefault(section, "").contains(words) ? 1 : 0, 1);
    left.computeIfPresent(section, (name, rest) -> rest.replaceFirst(Pattern.quote(words), " "));
  }

  void is(String call, long got, long want) {
    answers++;
    due.is(section + ", <" + sentence + ">: " + call, got, want);
  }

  /** The finding is told and counted, and nothing else is otherwise than in a twin that wasn't asked. */
  void refused(String call, Supplier<TollSills> state, long finding, ToLongFunction<TollSills> act) {
    TollSills x = state.get();
    TollSills twin = state.get();
    is(call, act.applyAsLong(x), finding);
    for (int which = 0; which < 7; which++) {
      int more = which == Due.BEYOND - finding ? 1 : 0;
      is(call + " and status " + which, x.status(which) - twin.status(which), more);
    }
    is(call + " and status of all", x.status(-1) - twin.status(-1), 1);
    alike(call, x, twin);
  }

  void alike(String call, TollSills x, TollSills twin) {
    List<String> seen = Sight.of(x);
    List<String> due = Sight.of(twin);
    for (int i = 0; i < Math.max(seen.size(), due.size()); i++) {
      String a = i < seen.size() ? seen.get(i) : "nothing";
      String b = i < due.size() ? due.get(i) : "nothing";
      if (!a.equals(b)) {
        is(call + " leaves " + b + ", but " + a, 1, 0);
        return;
      }
    }
    is(call + " leaves all as it was", 0, 0);
  }

  /** Both ends are taken; what lies beyond them is refused. */
  void range(String call, Supplier<TollSills> state, int least, int most, Call act) {
    for (int v : new int[] {least, most}) {
      is(call + " takes " + v, act.of(state.get(), v) == Due.BEYOND ? Due.BEYOND : 0, 0);
    }
    for (int v : new int[] {least - 1, most + 1, Integer.MIN_VALUE, Integer.MAX_VALUE}) {
      refused(call + " with " + v, state, Due.BEYOND, x -> act.of(x, v));
    }
  }

  void end() {
    for (String name : left.keySet()) {
      String rest = left.get(name).replaceAll("[\\s.;,:]+", " ").trim();
      due.is(name + " has words without a test: <" + rest + ">", rest.length(), 0);
    }
    says("");
    due.end();
  }
}
