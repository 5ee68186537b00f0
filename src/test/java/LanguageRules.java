import java.io.IOException;
import java.lang.reflect.Constructor;
import java.lang.reflect.Field;
import java.lang.reflect.Method;
import java.lang.reflect.Modifier;
import java.nio.file.Files;
import java.nio.file.Path;
import java.util.ArrayList;
import java.util.List;
import java.util.Set;
import java.util.TreeSet;
import java.util.regex.Matcher;
import java.util.regex.Pattern;

/** What of LANGUAGE.md can be seen in the source and in the classes. It is run from the project's folder. */
public final class LanguageRules {
  private static int wrong = 0;

  private static void must(boolean holds, String rule) {
    if (!holds) {
      wrong++;
      System.out.println(rule);
    }
  }

  public static void main(String[] args) throws IOException {
    String source = Files.readString(Path.of("src/main/java/HornBraider.java"));
    String bare = source.replaceAll("(?s)/\\*.*?\\*/", "").replaceAll("//[^\n]*", "").replaceAll("\"[^\"\n]*\"", "\"\"");
    words(bare);
    made(bare);
    methodLengths(bare);
    members();
    face();
    System.out.println(wrong == 0 ? "the rules that can be seen hold" : wrong + " rules are broken");
    if (wrong != 0) System.exit(1);
  }

  private static void words(String bare) {
    for (String word : List.of("throw", "throws", "try", "catch", "finally", "synchronized", "assert", "import", "package",
        "protected", "System", "Thread", "Object", "hashCode", "toString", "Random", "var", "transient", "volatile")) {
      must(!Pattern.compile("\\b" + word + "\\b").matcher(bare).find(), "rules 4, 6, 13: the word " + word);
    }
    must(!bare.contains("->") && !bare.contains("::"), "rule 2: a lambda or a method reference");
    must(!bare.contains("Exact"), "rule 4: a function whose name ends in Exact");
    must(!bare.contains("\"\" +") && !bare.contains("+ \"\""), "rule 10: texts joined by +");
    must(!Pattern.compile("while \\(true\\)|for \\(;;\\)").matcher(bare).find(), "rule 9: a loop without an end");
  }

  /** Objects are made where fields are, or in a constructor: no call makes one. */
  private static void made(String bare) {
    for (String line : bare.split("\n")) {
      if (line.matches(".*\\bnew\\b.*")) {
        must(line.matches("\\s+private (final )?[\\w\\[\\]]+ \\w+ = new .*") || line.contains("letters = new int[Math.max(room, 0)]"),
            "rule 12: made in a call: " + line.trim());
      }
    }
  }

  private static void methodLengths(String bare) {
    String[] lines = bare.split("\n");
    for (int i = 0; i < lines.length; i++) {
      if (lines[i].matches("( {4}| {8})(public|private) [^=;]*\\) \\{")) {
        String indent = lines[i].replaceAll("\\S.*", "");
        int end = i + 1;
        while (!lines[end].equals(indent + "}")) end++;
        must(end - i <= 60, "rule 11: longer than sixty lines: " + lines[i].trim());
        Matcher m = Pattern.compile("\\((.*)\\)").matcher(lines[i]);
        must(!m.find() || m.group(1).split(",").length <= 7, "rule 11: more than seven parameters: " + lines[i].trim());
      }
    }
  }

  private static void members() {
    Set<String> open = new TreeSet<>();
    List<Class<?>> all = new ArrayList<>(List.of(HornBraider.class.getDeclaredClasses()));
    for (Method m : HornBraider.class.getDeclaredMethods()) {
      must(Modifier.isPublic(m.getModifiers()) || Modifier.isPrivate(m.getModifiers()), "rule 1: " + m);
      if (Modifier.isPublic(m.getModifiers())) open.add(m.getName());
    }
    must(open.size() == 45, "rule 1: " + open.size() + " public methods");
    for (Field f : HornBraider.class.getDeclaredFields()) {
      must(Modifier.isPrivate(f.getModifiers()) || f.getName().equals("NONE"), "rule 1: " + f);
    }
    must(HornBraider.class.getConstructors().length == 1 && HornBraider.class.getDeclaredConstructors().length == 1, "rule 1: constructors");
    must(all.size() + 1 <= 12, "rule 11: classes");
    all.add(HornBraider.class);
    for (Class<?> c : all) {
      must(c == HornBraider.class || Modifier.isStatic(c.getModifiers()), "rule 2: " + c);
      int fields = 0;
      for (Field f : c.getDeclaredFields()) {
        if (!Modifier.isStatic(f.getModifiers())) fields++;
        else must(Modifier.isFinal(f.getModifiers()), "rule 5: " + f);
      }
      must(fields <= 20, "rule 11: fields of " + c);
      for (Method m : c.getDeclaredMethods()) {
        must(!Modifier.isPrivate(m.getModifiers()) || !open.contains(m.getName()), "rule 1: a private method bears a public name: " + m);
      }
    }
  }

  /** The public face is the one that the document tells, word by word. */
  private static void face() throws IOException {
    String doc = Files.readString(Path.of("../shared/DOC.md"));
    Set<String> due = new TreeSet<>();
    Matcher told = Pattern.compile("(?m)^    public (static final int NONE = -1|[^;=]*);$").matcher(doc);
    while (told.find()) due.add(told.group(1).replaceAll("(int|boolean) \\w+(?=[,)])", "$1"));
    Set<String> is = new TreeSet<>();
    for (Method m : HornBraider.class.getMethods()) {
      if (m.getDeclaringClass() == HornBraider.class) {
        is.add(m.getReturnType() + " " + m.getName() + kinds(m.getParameterTypes()));
      }
    }
    for (Constructor<?> c : HornBraider.class.getConstructors()) {
      is.add(c.getName() + kinds(c.getParameterTypes()));
    }
    for (Field f : HornBraider.class.getFields()) {
      is.add("static final " + f.getType() + " " + f.getName() + " = " + HornBraider.NONE);
    }
    must(due.size() == 47 && is.equals(due), "rule 1: the face is " + is + ", due is " + due);
    must(Modifier.isFinal(HornBraider.class.getModifiers()) && Modifier.isPublic(HornBraider.class.getModifiers()), "rule 1: the class");
  }

  private static String kinds(Class<?>[] types) {
    List<String> names = new ArrayList<>();
    for (Class<?> type : types) {
      names.add(type.getName());
    }
    return "(" + String.join(", ", names) + ")";
  }
}
