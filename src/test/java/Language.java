import java.io.IOException;
import java.lang.reflect.Constructor;
import java.lang.reflect.Field;
import java.lang.reflect.Method;
import java.lang.reflect.Modifier;
import java.nio.file.Files;
import java.nio.file.Path;
import java.util.List;
import java.util.Set;
import java.util.TreeSet;
import java.util.regex.Matcher;
import java.util.regex.Pattern;

/** The face by reflection, and those rules of LANGUAGE.md that can be seen in the source's lines. */
public final class Language {
  private static final Set<String> FACE = Set.of("type", "wipe", "fault", "gate", "room", "shut", "paper", "judged", "same",
      "shortest", "letter", "errands", "clean", "found", "many", "list", "read", "unlist", "listed", "lets", "slips", "fewest",
      "far", "without", "with", "sheet", "lose", "lay", "get", "copy", "write", "count", "digest");
  private static final Set<String> LONGS = Set.of("shortest", "many", "digest");
  private static int wrong = 0;

  private static void say(boolean well, String what) {
    if (!well) {
      wrong++;
      System.out.println(what);
    }
  }

  public static void main(String[] args) throws IOException {
    Path source = Path.of(args.length > 0 ? args[0] : "src/main/java/StampsCancel.java");
    lookAtFace();
    lookAtMembers();
    lookAtSource(Files.readString(source));
    System.out.println(wrong + " breaches of LANGUAGE.md found");
    if (wrong != 0) System.exit(1);
  }

  private static void lookAtFace() {
    Class<?> c = StampsCancel.class;
    say(Modifier.isFinal(c.getModifiers()) && Modifier.isPublic(c.getModifiers()), "the class is public and final");
    Set<String> seen = new TreeSet<>();
    for (Method m : c.getDeclaredMethods()) {
      if (m.isSynthetic()) continue;
      boolean open = Modifier.isPublic(m.getModifiers());
      say(open || Modifier.isPrivate(m.getModifiers()), m + " is neither public nor private");
      say(open == FACE.contains(m.getName()), m + " and the face");
      if (open) {
        say(seen.add(m.getName()), m + " is there twice");
        say(m.getReturnType() == (LONGS.contains(m.getName()) ? long.class : int.class), m + " has another type");
        for (Class<?> p : m.getParameterTypes()) say(p == int.class, m + " has another parameter");
      }
    }
    say(seen.size() == FACE.size(), "the face has " + seen);
    for (Constructor<?> k : c.getDeclaredConstructors()) say(k.getParameterCount() == 0 && Modifier.isPublic(k.getModifiers()), k + "");
    Set<String> constants = Set.of("NONE", "BAD", "NOT", "FULL");
    for (Field f : c.getDeclaredFields()) {
      say(f.isSynthetic() || Modifier.isPrivate(f.getModifiers()) || constants.contains(f.getName()), f + " is seen");
    }
  }

  private static void lookAtMembers() {
    Class<?>[] classes = StampsCancel.class.getDeclaredClasses();
    say(classes.length <= 11, "too many classes");
    for (Class<?> c : classes) {
      say(Modifier.isStatic(c.getModifiers()), c + " is not static");
      for (Method m : c.getDeclaredMethods()) {
        say(!FACE.contains(m.getName()), m + " bears a name of the face");
        say(m.getParameterCount() <= 7, m + " has too many parameters");
      }
      int fields = 0;
      for (Field f : c.getDeclaredFields()) {
        boolean fixed = Modifier.isStatic(f.getModifiers());
        say(!fixed || Modifier.isFinal(f.getModifiers()) || f.isSynthetic(), f + " is static and changes");
        fields += fixed ? 0 : 1;
      }
      say(fields <= 20, c + " has too many fields");
    }
  }

  private static void lookAtSource(String all) {
    String code = all.replaceAll("(?s)/\\*.*?\\*/", "").replaceAll("//[^\n]*", "");
    for (String word : List.of("throw", "throws", "try", "catch", "finally", "synchronized", "assert", "native", "volatile",
        "transient", "package", "double", "float", "String", "hashCode", "toString", "protected", "Object")) {
      say(!Pattern.compile("\\b" + word + "\\b").matcher(code).find(), "the word " + word);
    }
    say(!code.contains("->") && !code.contains("::"), "a lambda or a method reference");
    say(code.chars().allMatch(c -> c < 127), "a sign beyond 126");
    Matcher imports = Pattern.compile("import ([^;]*);").matcher(code);
    while (imports.find()) say(imports.group(1).equals("java.util.Arrays"), "import " + imports.group(1));
    Matcher library = Pattern.compile("\\b(System|Arrays|Math|Integer|Long)\\.(\\w+)").matcher(code);
    Set<String> fine = Set.of("System.arraycopy", "Arrays.fill", "Math.min", "Math.max", "Math.abs", "Integer.bitCount");
    while (library.find()) {
      boolean known = fine.contains(library.group()) || code.startsWith("java.util.Arrays", library.start() - 10);
      say(known, "the library's " + library.group());
    }
    int line = 0, begun = 0;
    for (String s : code.split("\n")) {
      line++;
      boolean made = s.contains("new ") && !s.trim().startsWith("private final") && !s.contains("texts[text] = new Text(");
      say(!made, "line " + line + ": an object is made by a call: " + s.trim());
      say(!s.contains("while"), "line " + line + ": a loop without a counter");
      if (s.matches(" {4,8}[a-z].*\\) \\{")) begun = line;
      if (s.matches(" {4,8}\\}")) say(line - begun <= 60, "line " + line + ": a method of over sixty lines");
    }
  }
}
