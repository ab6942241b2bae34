import java.io.IOException;
import java.lang.reflect.InvocationTargetException;
import java.lang.reflect.Method;
import java.nio.file.Files;
import java.nio.file.Path;
import java.util.regex.Matcher;
import java.util.regex.Pattern;

/** README.md: each call of its example has the answer that stands behind it, and each call of the face is named. */
public final class Readme {
  private static final Pattern TYPED = Pattern.compile("\"([^\"]*)\"\\.toCharArray\\(\\)\\) x\\.type\\((\\d), c\\);");
  private static final Pattern ASKED = Pattern.compile("(?m)^x\\.(\\w+)\\(([^)]*)\\); *// (-?\\d+): ");
  private static int wrong = 0;

  private static void say(boolean well, String what) {
    if (!well) {
      wrong++;
      System.out.println(what);
    }
  }

  public static void main(String[] args) throws IOException, IllegalAccessException, InvocationTargetException {
    String readme = Files.readString(Path.of("README.md"));
    StampsCancel x = new StampsCancel();
    Matcher typed = TYPED.matcher(readme);
    while (typed.find()) for (char c : typed.group(1).toCharArray()) x.type(Integer.parseInt(typed.group(2)), c);
    Matcher asked = ASKED.matcher(readme);
    int calls = 0;
    for (; asked.find(); calls++) ask(x, asked.group(1), asked.group(2), Long.parseLong(asked.group(3)));
    int lines = readme.split("\nx\\.", -1).length - 1;
    say(calls == lines && calls > 0, "of " + lines + " lines with a call, " + calls + " tell their answer");
    for (Method m : StampsCancel.class.getDeclaredMethods()) {
      boolean open = java.lang.reflect.Modifier.isPublic(m.getModifiers());
      say(!open || readme.contains("`" + m.getName() + "`"), m.getName() + " is not named");
    }
    System.out.println(calls + " answers of README.md asked for, " + wrong + " faults");
    if (wrong != 0) System.exit(1);
  }

  private static void ask(StampsCancel x, String name, String told, long want) throws IllegalAccessException, InvocationTargetException {
    String[] words = told.isEmpty() ? new String[0] : told.split(", ");
    Object[] numbers = new Object[words.length];
    for (int i = 0; i < words.length; i++) numbers[i] = words[i].equals("StampsCancel.NONE") ? StampsCancel.NONE : Integer.parseInt(words[i]);
    for (Method m : StampsCancel.class.getDeclaredMethods()) {
      if (m.getName().equals(name) && m.getParameterCount() == numbers.length) {
        long got = ((Number) m.invoke(x, numbers)).longValue();
        say(got == want, name + "(" + told + ") answered " + got + ", README.md says " + want);
        return;
      }
    }
    say(false, "there is no " + name + "(" + told + ")");
  }
}
