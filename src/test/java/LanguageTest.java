import java.lang.reflect.Constructor;
import java.lang.reflect.Field;
import java.lang.reflect.Method;
import java.lang.reflect.Modifier;
import java.nio.file.Files;
import java.nio.file.Path;
import java.util.ArrayList;
import java.util.Arrays;
import java.util.HashSet;
import java.util.List;
import java.util.Set;
import java.util.regex.Matcher;
import java.util.regex.Pattern;

/** The rules of LANGUAGE.md that can be looked at from outside: the face, the members, the words of the source. */
public final class LanguageTest {
  private static final String[] FACE = {"set 3", "dish 3", "told 2", "asks 3", "feed 1", "text 0", "force 1", "cook 2", "menu 2", "serve 1", "best 1",
      "leave 1", "buy 2", "share 1", "tells 3", "film 2", "drawn 1", "chance 4", "image 0", "back 0", "count 1", "sheet 3", "cell 3", "copy 5",
      "dishes 4", "taken 2"};
  private static int wrong = 0;

  private static void rule(boolean kept, String rule, Object what) {
    if (!kept) {
      wrong++;
      System.out.println(rule + ": " + what);
    }
  }

  private static void face() {
    Class<?> c = MenuIsATreaty.class;
    rule(Modifier.isFinal(c.getModifiers()) && Modifier.isPublic(c.getModifiers()), "rule 1: public and final", c);
    Set<String> due = new HashSet<>(Arrays.asList(FACE));
    Set<String> names = new HashSet<>();
    for (String f : FACE) names.add(f.split(" ")[0]);
    for (Method m : c.getDeclaredMethods()) {
      if (m.isSynthetic()) continue;
      if (Modifier.isPrivate(m.getModifiers())) {
        rule(!names.contains(m.getName()), "rule 1: no private method bears the name of a public one", m);
      } else {
        rule(due.remove(m.getName() + " " + m.getParameterCount()), "rule 1: not of the face", m);
      }
    }
    rule(due.isEmpty(), "rule 1: misses", due);
    for (Constructor<?> k : c.getDeclaredConstructors()) rule(Modifier.isPublic(k.getModifiers()) && k.getParameterCount() == 0, "rule 1", k);
    Set<String> constants = new HashSet<>(List.of("NONE", "BAD", "STATE", "FULL", "NO"));
    for (Field f : c.getDeclaredFields()) {
      rule(Modifier.isPrivate(f.getModifiers()) || constants.contains(f.getName()), "rule 1: no other member", f);
    }
  }

  private static void members(Class<?> c) {
    int fields = 0;
    for (Field f : c.getDeclaredFields()) {
      if (f.isSynthetic()) continue;
      if (Modifier.isStatic(f.getModifiers())) {
        rule(Modifier.isFinal(f.getModifiers()), "rule 5: static fields are final", f);
      } else {
        fields++;
      }
    }
    rule(fields <= 20, "rule 11: some twenty fields", c);
    for (Method m : c.getDeclaredMethods()) {
      rule(m.getParameterCount() <= 7, "rule 11: at most seven parameters", m);
      rule(!Modifier.isSynchronized(m.getModifiers()), "rule 6", m);
      rule(!List.of("equals", "hashCode", "toString").contains(m.getName()), "rule 6", m);
    }
  }

  private static void words(String source) {
    String code = source.replaceAll("(?s)/\\*.*?\\*/", "").replaceAll("//[^\n]*", "");
    String[] never = {"\\bthrow\\b", "\\btry\\b", "\\bcatch\\b", "\\bsynchronized\\b", "\\bassert\\b", "\\bimport\\b", "\\bpackage\\b", "->", "::",
        "Exact\\b", "\\bstatic\\s*\\{", "System\\.(?!arraycopy)", "\\bThread\\b", "\\bRandom\\b", "\"\\s*\\+", "\\+\\s*\"", "\\bnew \\w+\\([^)]*\\)\\s*\\{",
        "\\.(equals|hashCode|toString)\\b", "\\bvar\\b", "\\bObject\\b"};
    for (String n : never) {
      Matcher m = Pattern.compile(n).matcher(code);
      rule(!m.find(), "a word that the rules leave out", n);
    }
    Matcher m = Pattern.compile("\\bwhile \\(([^\n]*)\\{").matcher(code);
    while (m.find()) rule(m.group(1).contains("at < size &&"), "rule 9: the end of a while", m.group());
    for (char c : source.toCharArray()) rule(c < 128, "rule 3: signs 1 to 127", (int) c);
  }

  /** Whatever is made is made by fields and by the constructor, so that no call fills the room. */
  private static void made(List<String> lines) {
    int from = lines.indexOf("  public MenuIsATreaty() {");
    int end = from < 0 ? from : from + lines.subList(from, lines.size()).indexOf("  }");
    for (int i = 0; i < lines.size(); i++) {
      String code = lines.get(i).replaceAll("//.*|/?\\*.*", "");
      boolean ofAField = code.matches(" +(private )?final [\\w\\[\\]]+ \\w+ = new .*;");
      boolean makes = code.matches(".*\\bnew\\b.*|.*\\.clone\\(.*");
      rule(!makes || ofAField || i > from && i < end, "rule 12: no call makes an object", lines.get(i));
    }
  }

  /** Methods stand indented by 2 or 4, and end by a brace as far in. */
  private static void lengths(List<String> lines) {
    for (int i = 0; i < lines.size(); i++) {
      Matcher m = Pattern.compile("( {2}| {4})[a-z][\\w\\[\\] ]*\\([^;]*\\{").matcher(lines.get(i));
      if (!m.matches()) continue;
      int end = lines.subList(i, lines.size()).indexOf(m.group(1) + "}");
      rule(end > 0 && end <= 60, "rule 11: some sixty lines", lines.get(i));
    }
  }

  public static void main(String[] args) throws Exception {
    Path path = Path.of("src/main/java/MenuIsATreaty.java");
    face();
    members(MenuIsATreaty.class);
    List<Class<?>> inside = new ArrayList<>(Arrays.asList(MenuIsATreaty.class.getDeclaredClasses()));
    rule(inside.size() < 12, "rule 11: some twelve classes", inside);
    for (Class<?> c : inside) {
      rule(Modifier.isStatic(c.getModifiers()) && !Modifier.isPublic(c.getModifiers()) && !Modifier.isProtected(c.getModifiers()), "rule 1", c);
      members(c);
      for (Method m : c.getDeclaredMethods()) rule(!Modifier.isPublic(m.getModifiers()), "rule 1", m);
    }
    words(Files.readString(path));
    lengths(Files.readAllLines(path));
    made(Files.readAllLines(path));
    System.out.println(wrong == 0 ? "the rules are kept" : wrong + " breaches of the rules");
    if (wrong != 0) System.exit(1);
  }
}
