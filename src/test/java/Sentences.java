import java.io.IOException;
import java.nio.file.Files;
import java.nio.file.Path;
import java.util.LinkedHashMap;
import java.util.Map;

/**
 * Every sentence of the document by a test of its own. That none is left out is seen from the
 * document itself: each word from "1 THE LAND" on must be among the words of some test.
 */
public final class Sentences {
  private static final Path DOCUMENT = Path.of("../shared/DOC.md");
  private static final String TERMS = "Terms";
  private static int wrong = 0;

  public static void main(String[] args) throws IOException {
    SentencesOfTexts.all();
    SentencesOfPapers.all();
    SentencesOfClerks.all();
    SentencesOfSheets.all();
    SentencesOfRefusals.all();
    if (Files.exists(DOCUMENT)) compare(sections(Files.readString(DOCUMENT)));
    else say("there is no " + DOCUMENT);
    System.out.println(Sentence.TESTED.size() + " tests by sentence, " + Sentence.asked + " answers asked for, "
        + (Sentence.wrong + wrong) + " not as due");
    if (Sentence.wrong + wrong != 0) System.exit(1);
  }

  private static void say(String what) {
    wrong++;
    System.out.println(what);
  }

  /** The words of the document that say what is due, by section: "Terms", "Promise 1" and so on. */
  private static Map<String, String> sections(String document) {
    Map<String, String> sections = new LinkedHashMap<>();
    for (String part : document.split("\n## ")) {
      int end = part.indexOf('\n');
      String title = part.substring(0, end), text = part.substring(end);
      if (title.equals("What it is")) {
        sections.merge(TERMS, plain(text.substring(text.indexOf("======== 1 "))), (a, b) -> a + " " + b);
      } else if (title.equals(TERMS)) {
        sections.merge(TERMS, plain(text.substring(0, text.indexOf("Ahead of the calls"))), (a, b) -> a + " " + b);
      } else if (title.startsWith("Promise ")) {
        sections.put(title.substring(0, title.indexOf(':')), plain(text.replaceFirst("`[^`]*`: ", "")));
      }
    }
    return sections;
  }

  private static String plain(String text) {
    return text.replace("```text", " ").replace("```", " ").replaceAll("=+ [1-4] ", " ").replaceAll("\\s+", " ").trim();
  }

  private static void compare(Map<String, String> sections) {
    Map<String, StringBuilder> left = new LinkedHashMap<>();
    sections.forEach((title, text) -> left.put(title, new StringBuilder(text)));
    for (String[] test : Sentence.TESTED) {
      String text = sections.getOrDefault(test[0], "");
      int at = text.indexOf(test[1]);
      if (at < 0) say(test[0] + " does not say \"" + test[1] + "\"");
      for (int i = at; at >= 0 && i < at + test[1].length(); i++) left.get(test[0]).setCharAt(i, '\n');
    }
    left.forEach((title, words) -> {
      for (String rest : words.toString().split("\n+")) {
        if (rest.matches(".*[A-Za-z0-9].*")) say(title + " says \"" + rest.trim() + "\", which no test has");
      }
    });
  }
}
