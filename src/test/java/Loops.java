/**
 * Lands whose gates all lead from one town to itself: too many papers for Plain, but they lie on a
 * tree of which each paper has as many neighbours as there are letters, so ways to a paper can be
 * counted by how many stamps it has.
 */
public final class Loops {
  private static final int GATES = 9, MOST_STEPS = 12;
  private static int wrong = 0, asked = 0;

  public static void main(String[] args) {
    for (int watched = 0; watched <= GATES; watched++) {
      for (int unwatched = 0; watched + unwatched <= GATES; unwatched++) {
        if (watched + unwatched > 0) compare(watched, unwatched);
      }
    }
    System.out.println(asked + " answers compared, " + wrong + " unlike");
    if (wrong != 0) System.exit(1);
  }

  private static void compare(int watched, int unwatched) {
    String land = ("33;".repeat(watched) + "33u;".repeat(unwatched)).replaceAll(";$", "");
    StampsCancel x = new StampsCancel();
    for (char c : land.toCharArray()) x.type(0, c);
    int stamps = 0;
    while (stamps <= (watched == 0 ? 0 : MOST_STEPS + 1)) {
      long[] ways = new long[MOST_STEPS + 3];
      ways[0] = 1;
      for (int n = 0; n <= MOST_STEPS; n++) {
        due(land, stamps, n, x.many(3, 1, 3, n), stamps < ways.length ? ways[stamps] : 0);
        ways = oneGateMore(ways, 2 * watched, 2 * unwatched);
      }
      x.type(1, stamps % 2 == 0 ? 'a' : 'A' + watched - 1 + (watched == 1 ? 'a' - 'A' : 0));
      stamps++;
    }
  }

  /** ways[d] lead to one paper of d stamps; of its neighbours one has a stamp less, the others one more. */
  private static long[] oneGateMore(long[] ways, int letters, int unwatchedLetters) {
    long[] then = new long[ways.length];
    for (int d = 0; d < ways.length; d++) {
      long more = d + 1 < ways.length ? ways[d + 1] : 0;
      long beside = d == 0 ? letters * more : ways[d - 1] + (letters - 1) * more;
      then[d] = unwatchedLetters * ways[d] + beside;
    }
    return then;
  }

  private static void due(String land, int stamps, int n, long got, long want) {
    asked++;
    if (got != want && wrong++ < 40) {
      System.out.println(land + ": many() to " + stamps + " stamps by " + n + " gates answered " + got + ", due is " + want);
    }
  }
}
