import java.util.ArrayList;
import java.util.List;

/**
 * What the tests by sentence share: a test belongs to words of a section of the document, and
 * Sentences sees to it that these words stand there.
 */
abstract class Sentence {
  static final int NONE = -1, BAD = -2, NOT = -3, FULL = -4;
  static final int NULL = -11, INDEX = -12, CAST = -13, STORE = -14, SIZE = -15;
  static final int LEAST = Integer.MIN_VALUE, MOST = Integer.MAX_VALUE;
  static final long LONG_BAD = Long.MIN_VALUE + 2;

  /** Section and words of each test that has run. */
  static final List<String[]> TESTED = new ArrayList<>();
  static int wrong = 0;
  static long asked = 0;
  private static String section = "", words = "";

  static void in(String title) {
    section = title;
  }

  static void says(String ofTheDocument, Runnable test) {
    words = ofTheDocument;
    TESTED.add(new String[] {section, words});
    long before = asked;
    test.run();
    if (asked == before) fail("nothing was asked for");
  }

  static void due(String what, long got, long want) {
    asked++;
    if (got != want) fail(what + " answered " + got + ", due is " + want);
  }

  static void dueUnlike(String what, long got, long other) {
    asked++;
    if (got == other) fail(what + " answered " + got + ", which is not due");
  }

  private static void fail(String what) {
    wrong++;
    System.out.println(section + ", \"" + words + "\": " + what);
  }

  static void type(StampsCancel x, int text, String s) {
    for (char c : s.toCharArray()) x.type(text, c);
  }

  static void tell(StampsCancel x, int text, String s) {
    x.wipe(text);
    type(x, text, s);
  }

  static StampsCancel of(String land, String... ways) {
    StampsCancel x = new StampsCancel();
    tell(x, 0, land);
    for (int i = 0; i < ways.length; i++) tell(x, i + 1, ways[i]);
    return x;
  }

  /** A new SHEET with these items. */
  static void lay(StampsCancel x, int s, int form, int... items) {
    x.sheet(s, form, items.length);
    for (int i = 0; i < items.length; i++) x.lay(s, form, i, items[i]);
  }

  static int[] bytes(String s) {
    return s.chars().toArray();
  }

  static void dueItems(StampsCancel x, int s, int form, int... want) {
    for (int i = 0; i < want.length; i++) due("get(" + s + ", " + form + ", " + i + ")", x.get(s, form, i), want[i]);
    due("items of " + s, x.copy(s, want.length, s, want.length, 0) == 1 && x.copy(s, want.length + 1, s, 0, 0) == INDEX ? 1 : 0, 1);
  }

  static void duePaper(StampsCancel x, int way, String want) {
    due("paper(" + way + ", -1) of " + want, x.paper(way, NONE), want.length());
    for (int i = 0; i < want.length(); i++) due("paper(" + way + ", " + i + ") of " + want, x.paper(way, i), want.charAt(i));
  }

  static void dueListed(StampsCancel x, int k, String want) {
    due("listed(" + k + ", -1) of " + want, x.listed(k, NONE), want.length());
    for (int i = 0; i < 11; i++) due("listed(" + k + ", " + i + ") of " + want, x.listed(k, i), i < want.length() ? want.charAt(i) : NONE);
  }

  static void dueJudged(StampsCancel x, int way, int town, int begins, int... want) {
    for (int what = 0; what < 5; what++) {
      due("judged(" + way + ", " + town + ", " + begins + ", " + what + ")", x.judged(way, town, begins, what), want[what]);
    }
  }

  static void dueShortest(StampsCancel x, int from, int a, int to, int b, long gates, long ways) {
    String call = "shortest(" + from + ", " + a + ", " + to + ", " + b + ", ";
    due(call + "0)", x.shortest(from, a, to, b, 0), gates);
    due(call + "1)", x.shortest(from, a, to, b, 1), ways);
  }

  static void dueLeast(StampsCancel x, int from, int a, int to, int b, String want) {
    for (int i = 0; i <= want.length(); i++) {
      int letter = i < want.length() ? want.charAt(i) : NONE;
      due("letter(" + from + ", " + a + ", " + to + ", " + b + ", " + i + ") of " + want, x.letter(from, a, to, b, i), letter);
    }
  }

  static void dueErrands(StampsCancel x, int home, int towns, int fullest, int steps) {
    due("errands(" + home + ", " + towns + ", 0)", x.errands(home, towns, 0), fullest);
    due("errands(" + home + ", " + towns + ", 1)", x.errands(home, towns, 1), steps);
  }

  static void dueFound(StampsCancel x, int way, int begun, int now) {
    due("found(" + way + ", 0)", x.found(way, 0), begun);
    due("found(" + way + ", 1)", x.found(way, 1), now);
  }

  static void dueWithout(StampsCancel x, int gate, int pairs, int most) {
    due("without(" + gate + ", 0)", x.without(gate, 0), pairs);
    due("without(" + gate + ", 1)", x.without(gate, 1), most);
  }

  static void dueWith(StampsCancel x, int a, int b, int pairs, int most) {
    due("with(" + a + ", " + b + ", 0)", x.with(a, b, 0), pairs);
    due("with(" + a + ", " + b + ", 1)", x.with(a, b, 1), most);
  }
}
