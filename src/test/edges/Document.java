import java.io.IOException;
import java.nio.file.Files;
import java.nio.file.Path;
import java.util.ArrayList;
import java.util.BitSet;
import java.util.List;
import java.util.regex.Matcher;
import java.util.regex.Pattern;

/** The document by its promises (0: what stands ahead of them), and what the edges quote of it. */
final class Document {
  private static final int PROMISES = 27;
  /** Words by which the document names an edge: ranges, refusals, what is at first, what wraps. */
  private static final Pattern EDGE = Pattern.compile("\\d \\.\\. -?\\d|at most|at first|else the bound|\\bcut\\b|wrapping|an int|modulo"
      + "|too (long|early)|while 5|\\b(BAD|FULL|STATE|NO|NONE)\\b|-1\\d\\b|-100\\d*|none such|above 40|below|does not matter|of like ones"
      + "|in lowest terms|left out|[Ee]mpty|if none|or more");

  private final String[] texts = new String[PROMISES + 1];
  private final BitSet[] quoted = new BitSet[PROMISES + 1];

  private Document(String whole) {
    String said = whole.replaceAll("(?s)```java.*?```", "").replaceAll("(?s)## Not promised.*", "");
    String[] parts = said.split("## Promise \\d+: ");
    for (int i = 0; i <= PROMISES; i++) {
      texts[i] = i < parts.length ? parts[i].replaceAll("\\s+", " ") : "";
      quoted[i] = new BitSet();
    }
  }

  static Document read(Path path) {
    try {
      return new Document(Files.readString(path));
    } catch (IOException missing) {
      System.out.println("the document is not at " + path.toAbsolutePath() + ": what is quoted of it is not looked at");
      return new Document("");
    }
  }

  /** Marks a sentence of a promise, or of the words ahead of all promises; whether it is there. */
  boolean quote(int promise, String sentence) {
    return texts[0].isEmpty() || mark(promise, sentence) || mark(0, sentence);
  }

  private boolean mark(int section, String sentence) {
    int at = texts[section].indexOf(sentence);
    if (at < 0) return false;
    quoted[section].set(at, at + sentence.length());
    return true;
  }

  /** The edges that no sentence that was marked has. */
  List<String> unquoted() {
    List<String> missed = new ArrayList<>();
    for (int i = 0; i <= PROMISES; i++) {
      Matcher m = EDGE.matcher(texts[i]);
      while (m.find()) {
        if (quoted[i].nextClearBit(m.start()) >= m.end()) continue;
        String around = texts[i].substring(Math.max(0, m.start() - 40), Math.min(texts[i].length(), m.end() + 20));
        missed.add("\"" + m.group() + "\" in promise " + i + ": .." + around + "..");
      }
    }
    return missed;
  }
}
