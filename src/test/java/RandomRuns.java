import java.util.Random;

/** Runs of calls that a fixed seed draws, each answer compared with that of Plain. */
public final class RandomRuns {
  private static final int RUNS = 1500, CALLS = 120;
  private static int wrong = 0;
  private static long asked = 0;

  private final StampsCancel x = new StampsCancel();
  private final Plain p = new Plain();
  private final int run;
  private final Random r;
  private int towns, mostSteps;

  private RandomRuns(int run) {
    this.run = run;
    this.r = new Random(7919L * run + 5);
  }

  public static void main(String[] args) {
    int runs = args.length > 0 ? Integer.parseInt(args[0]) : RUNS;
    int first = args.length > 1 ? Integer.parseInt(args[1]) : 0;
    for (int run = first; run < first + runs; run++) new RandomRuns(run).go();
    System.out.println(asked + " answers compared, " + wrong + " unlike");
    if (wrong != 0) System.exit(1);
  }

  private void due(String call, long got, long want) {
    asked++;
    if (got != want && wrong++ < 40) {
      System.out.println("run " + run + ": land " + p.told(0) + " ways " + p.told(1) + " " + p.told(2) + " " + p.told(3)
          + " shut " + p.shut + ": " + call + " answered " + got + ", due is " + want);
    }
  }

  private int upTo(int n) {
    return r.nextInt(n + 1);
  }

  /** Mostly from 0 to most, now and then beside it. */
  private int around(int most) {
    return r.nextInt(25) == 0 ? (r.nextBoolean() ? most + 1 : -1 - upTo(1)) : upTo(most);
  }

  private void go() {
    tellLand();
    for (int way = 1; way <= 3; way++) tellWay(way);
    for (int i = 0; i < CALLS; i++) one();
    for (int k = 0; k < p.listed.size(); k++) for (int i = -1; i < 11; i++) due("listed", x.listed(k, i), p.listed(k, i));
    due("digest()", x.digest(), p.digest());
  }

  private void type(int text, String s) {
    for (char c : s.toCharArray()) due("type(" + text + ", " + (int) c + ")", x.type(text, c), p.type(text, c));
  }

  private void wipe(int text) {
    due("wipe(" + text + ")", x.wipe(text), p.wipe(text));
  }

  /** Sizes are kept so small that Plain ends: it goes through every paper that may be. */
  private void tellLand() {
    wipe(0);
    towns = 1 + upTo(7);
    int gates = upTo(Math.min(9, 1 + 2 * towns));
    int unwatched = r.nextInt(4);
    StringBuilder s = new StringBuilder();
    int room = gates <= 1 ? 11 : gates == 2 ? 6 : 1 + upTo(towns < 3 ? 2 : 3);
    mostSteps = gates <= 1 ? 12 : gates <= 2 ? 9 : 5;
    if (gates > 1 || r.nextBoolean()) s.append(";r").append(1 + upTo(room - 1));
    for (int i = 0; i < gates; i++) {
      s.append(';').append(upTo(towns - 1)).append(upTo(towns - 1));
      if (upTo(3) < unwatched) s.append('u');
    }
    if (r.nextInt(6) == 0) s.append(";r").append(1 + upTo(room - 1));
    if (s.length() > 51) s.setLength(51);
    type(0, s.length() == 0 ? "" : s.substring(1));
  }

  private void tellWay(int way) {
    wipe(way);
    if (r.nextInt(4) == 0) {
      int like = 1 + upTo(2);
      type(way, p.told(like));
    }
    String letters = p.letters();
    int length = r.nextInt(5) == 0 ? upTo(31) : upTo(6), here = upTo(towns - 1);
    for (int i = 0; i < length && !letters.isEmpty(); i++) {
      char c = letters.charAt(r.nextInt(letters.length()));
      for (int k = 0; k < 6 && p.from(c) != here && r.nextInt(8) != 0; k++) c = letters.charAt(r.nextInt(letters.length()));
      type(way, String.valueOf(c));
      here = p.to(c);
    }
    if (r.nextInt(15) == 0) type(way, r.nextBoolean() ? "j" : "?");
  }

  private void one() {
    switch (r.nextInt(22)) {
      case 0: changeTexts(); break;
      case 1: askGates(); break;
      case 2: askJudged(); break;
      case 3: case 4: case 5: askShortest(); break;
      case 6: case 7: askErrands(); break;
      case 8: case 9: askFound(); break;
      case 10: case 11: askMany(); break;
      case 12: case 13: askList(); break;
      case 14: case 15: askClerk(); break;
      case 16: case 17: askChanges(); break;
      default: askSheets();
    }
  }

  private void changeTexts() {
    int k = r.nextInt(14);
    if (k == 0) tellLand();
    else if (k < 4) tellWay(1 + upTo(2));
    else if (k < 8) {
      int gates = r.nextInt(3) == 0 ? 0 : around(511) & (r.nextBoolean() ? -1 : upTo(511));
      due("shut(" + gates + ")", x.shut(gates), p.shut(gates));
    } else if (k == 8) {
      int text = around(3), b = around(255);
      if (text != 0) due("type(" + text + ", " + b + ")", x.type(text, b), p.type(text, b));
    } else {
      int text = around(3);
      if (text != 0 && r.nextInt(4) == 0) due("wipe(" + text + ")", x.wipe(text), p.wipe(text));
    }
  }

  private void askGates() {
    int g = around(8), w = around(3), t = around(3), c = around(8);
    due("gate(" + g + ", " + w + ")", x.gate(g, w), p.gate(g, w));
    due("fault(" + t + ")", x.fault(t), p.fault(t));
    due("room()", x.room(), p.room());
    due("count(" + c + ")", x.count(c), p.count(c));
  }

  private void askJudged() {
    int way = r.nextInt(30) == 0 ? upTo(4) : 1 + upTo(2), town = around(7), begins = around(3), i = around(10) - upTo(1), b = around(3);
    if (r.nextBoolean()) town = upTo(towns - 1);
    for (int what = -1; what <= 5; what++) {
      due("judged(" + way + ", " + town + ", " + begins + ", " + what + ")", x.judged(way, town, begins, what), p.judged(way, town, begins, what));
    }
    due("paper(" + way + ", " + i + ")", x.paper(way, i), p.paper(way, i));
    due("paper(" + way + ", -1)", x.paper(way, -1), p.paper(way, -1));
    due("same(" + way + ", " + b + ")", x.same(way, b), p.same(way, b));
  }

  private void askShortest() {
    int from = r.nextInt(4) == 0 ? around(7) : upTo(towns - 1), to = r.nextInt(4) == 0 ? around(7) : upTo(towns - 1);
    int a = around(3), b = around(3);
    if (r.nextBoolean() && b >= 1 && b <= 3) to = p.judged(b, from, 0, 1) < 0 ? to : p.judged(b, from, 0, 1);
    String call = "(" + from + ", " + a + ", " + to + ", " + b + ", ";
    for (int what = 0; what < 2; what++) due("shortest" + call + what + ")", x.shortest(from, a, to, b, what), p.shortest(from, a, to, b, what));
    int gates = (int) Math.min(40, Math.max(0, x.shortest(from, a, to, b, 0)));
    for (int i = r.nextInt(9) == 0 ? -1 : 0; i <= gates; i++) {
      due("letter" + call + i + ")", x.letter(from, a, to, b, i), p.letter(from, a, to, b, i));
    }
  }

  private void askErrands() {
    int home = r.nextInt(5) == 0 ? around(7) : upTo(towns - 1), some = around(255) & (r.nextBoolean() ? -1 : (1 << towns) - 1);
    if (r.nextBoolean()) some &= upTo(255);
    for (int what = 0; what < 2; what++) {
      due("errands(" + home + ", " + some + ", " + what + ")", x.errands(home, some, what), p.errands(home, some, what));
    }
    due("clean(" + home + ")", x.clean(home), p.clean(home));
  }

  private void askFound() {
    int way = around(3), what = around(1);
    due("found(" + way + ", " + what + ")", x.found(way, what), p.found(way, what));
  }

  private void askMany() {
    int from = r.nextInt(5) == 0 ? around(7) : upTo(towns - 1), way = around(3), to = r.nextInt(5) == 0 ? around(7) : upTo(towns - 1);
    if (r.nextInt(3) != 0 && way >= 1 && way <= 3) to = Math.max(0, p.judged(way, from, 0, 1));
    int n = r.nextInt(30) == 0 ? 13 : upTo(mostSteps);
    due("many(" + from + ", " + way + ", " + to + ", " + n + ")", x.many(from, way, to, n), p.many(from, way, to, n));
  }

  private void askList() {
    int way = r.nextInt(20) == 0 ? around(3) : 1 + upTo(2), good = r.nextInt(20) == 0 ? around(1) : upTo(1), s = around(3);
    int k = r.nextInt(6);
    if (k < 3) due("list(" + way + ", " + good + ")", x.list(way, good), p.list(way, good));
    else if (k == 3) due("unlist()", x.unlist(), p.unlist());
    else if (k == 4) due("read(" + s + ")", x.read(s), p.read(s));
    else tellWay(1 + upTo(2));
    int of = around(11), what = around(10);
    due("listed(" + of + ", " + what + ")", x.listed(of, what), p.listed(of, what));
  }

  private void askClerk() {
    int way = around(3), places = r.nextInt(20) == 0 ? around(2047) : upTo(2047) & upTo(2047) & upTo(2047);
    due("lets(" + way + ", " + places + ")", x.lets(way, places), p.lets(way, places));
    due("slips(" + places + ")", x.slips(places), p.slips(places));
    if (r.nextInt(4) == 0) due("fewest()", x.fewest(), p.fewest());
  }

  private void askChanges() {
    int a = around(7), b = around(7), g = around(8), what = around(1);
    due("far(" + a + ", " + b + ")", x.far(a, b), p.far(a, b));
    due("without(" + g + ", " + what + ")", x.without(g, what), p.without(g, what));
    due("with(" + a + ", " + b + ", " + what + ")", x.with(a, b, what), p.with(a, b, what));
  }

  private void askSheets() {
    int s = around(3), form = r.nextInt(3) == 0 || s < 0 || s > 3 ? around(2) : p.forms[s], i = upTo(12) - 1, way = around(3);
    String letters = p.letters() + "?";
    int v = r.nextInt(4) == 0 ? r.nextInt() : letters.charAt(r.nextInt(letters.length()));
    if (r.nextInt(6) == 0) v += 256 << 8 * upTo(2);
    switch (r.nextInt(8)) {
      case 0:
        int n = r.nextInt(12) == 0 ? around(60) : upTo(11);
        due("sheet(" + s + ", " + form + ", " + n + ")", x.sheet(s, form, n), p.sheet(s, form, n));
        break;
      case 1:
        if (r.nextInt(3) == 0) due("lose(" + s + ")", x.lose(s), p.lose(s));
        break;
      case 2: case 3: case 4:
        due("lay(" + s + ", " + form + ", " + i + ", " + v + ")", x.lay(s, form, i, v), p.lay(s, form, i, v));
        break;
      case 5:
        due("get(" + s + ", " + form + ", " + i + ")", x.get(s, form, i), p.get(s, form, i));
        break;
      case 6:
        int t = around(3), j = upTo(9) - 1, m = r.nextInt(15) == 0 ? Integer.MAX_VALUE - upTo(3) : upTo(7) - 1;
        due("copy(" + s + ", " + i + ", " + t + ", " + j + ", " + m + ")", x.copy(s, i, t, j, m), p.copy(s, i, t, j, m));
        break;
      default:
        due("write(" + way + ", " + s + ")", x.write(way, s), p.write(way, s));
    }
    due("count(8)", x.count(8), p.count(8));
    if (s >= 0 && s < 4 && p.sheets[s] != null && r.nextInt(5) == 0) {
      for (int k = 0; k < p.sheets[s].length; k++) due("get", x.get(s, p.forms[s], k), p.get(s, p.forms[s], k));
    }
  }
}
