/** Each promise of the document by its number: ordinary inputs, the edges that are named, wrong inputs. */
public final class Promises {
  private static final int NONE = -1, BAD = -2, NOT = -3, FULL = -4;
  private static final int NULL = -11, INDEX = -12, CAST = -13, STORE = -14, SIZE = -15;
  private static final int LEAST = Integer.MIN_VALUE;
  private static final long LONG_BAD = Long.MIN_VALUE + 2;
  private static int wrong = 0;
  private static int asked = 0;
  private static int promise = 0;

  private static void due(String what, long got, long want) {
    asked++;
    if (got != want) {
      wrong++;
      System.out.println("promise " + promise + ": " + what + " answered " + got + ", due is " + want);
    }
  }

  private static void tell(StampsCancel x, int text, String s) {
    x.wipe(text);
    for (char c : s.toCharArray()) x.type(text, c);
  }

  private static StampsCancel of(String land, String... ways) {
    StampsCancel x = new StampsCancel();
    tell(x, 0, land);
    for (int i = 0; i < ways.length; i++) tell(x, i + 1, ways[i]);
    return x;
  }

  private static int[] outside(int least, int most) {
    return new int[] {least - 1, most + 1, Integer.MIN_VALUE, Integer.MAX_VALUE};
  }

  private static String least(StampsCancel x, int from, int a, int to, int b) {
    StringBuilder s = new StringBuilder();
    for (int i = 0; x.letter(from, a, to, b, i) >= 0; i++) s.append((char) x.letter(from, a, to, b, i));
    return s.toString();
  }

  private static void dueLeast(StampsCancel x, int from, int a, int to, int b, String want) {
    String got = least(x, from, a, to, b);
    due("the least way, " + got + " for " + want, got.equals(want) ? 1 : 0, 1);
  }

  public static void main(String[] args) {
    newObject();
    type();
    wipe();
    faultOfLand();
    faultOfWays();
    gate();
    room();
    shut();
    paper();
    judged();
    same();
    shortest();
    letter();
    errands();
    clean();
    found();
    many();
    list();
    read();
    unlist();
    listed();
    lets();
    slips();
    fewest();
    far();
    without();
    with();
    sheet();
    lose();
    lay();
    get();
    copy();
    write();
    count();
    digest();
    System.out.println(asked + " answers asked for, " + wrong + " not as due");
    if (wrong != 0) System.exit(1);
  }

  private static void newObject() {
    promise = 1;
    StampsCancel x = new StampsCancel();
    for (int what = 0; what <= 8; what++) due("count(" + what + ")", x.count(what), 0);
    for (int text = 0; text < 4; text++) due("fault(" + text + ")", x.fault(text), NONE);
    due("room()", x.room(), 11);
    due("shut(0)", x.shut(0), 0);
    due("paper(1, -1)", x.paper(1, NONE), 0);
    for (int s = 0; s < 4; s++) due("lose(" + s + ")", x.lose(s), NULL);
    due("a second object", new StampsCancel().count(8), 0);
  }

  private static void type() {
    promise = 2;
    StampsCancel x = new StampsCancel();
    for (int i = 1; i <= 50; i++) due("type(0)", x.type(0, i == 1 ? 0 : 255), i);
    due("type(0) beyond", x.type(0, 1), FULL);
    due("still 50", x.count(2), 50);
    for (int text = 1; text < 4; text++) {
      for (int i = 1; i <= 30; i++) due("type(way)", x.type(text, 97), i);
      due("type(way) beyond", x.type(text, 97), FULL);
      due("BAD ahead of FULL", x.type(text, 256), BAD);
    }
    for (int bad : outside(0, 3)) due("type(text)", x.type(bad, 48), BAD);
    for (int bad : outside(0, 255)) due("type(b)", x.type(0, bad), BAD);
    due("unchanged", x.count(5), 30);
  }

  private static void wipe() {
    promise = 3;
    StampsCancel x = of("01", "a", "aA");
    due("wipe(2)", x.wipe(2), 2);
    due("wipe(2) again", x.wipe(2), 0);
    due("the other stays", x.count(3), 1);
    due("wipe(0)", x.wipe(0), 2);
    due("no gates", x.count(0), 0);
    due("a way's letter is none then", x.fault(1), 0);
    due("type(2)", x.type(2, 97), 1);
    for (int bad : outside(0, 3)) due("wipe(bad)", x.wipe(bad), BAD);
  }

  private static void dueFault(String land, int want) {
    due("fault of " + land, of(land).fault(0), want);
  }

  private static void faultOfLand() {
    promise = 4;
    for (String well : new String[] {"", "01", "00", "77u", "r1", "r11", "r9;r10", "01;r3;12u", "r01", "r09;67"}) dueFault(well, NONE);
    dueFault(";", 0);
    dueFault("8", 0);
    dueFault("u", 0);
    dueFault(" 01", 0);
    dueFault("R1", 0);
    dueFault("0", 1);
    dueFault("08", 1);
    dueFault("0;", 1);
    dueFault("0u", 1);
    dueFault("012", 2);
    dueFault("01U", 2);
    dueFault("01r3", 2);
    dueFault("01uu", 3);
    dueFault("01;", 3);
    dueFault("01u;", 4);
    dueFault("01;;", 3);
    dueFault("r", 1);
    dueFault("r;", 1);
    dueFault("rr", 1);
    dueFault("r0", 1);
    dueFault("r00", 1);
    dueFault("r12", 1);
    dueFault("r99", 1);
    dueFault("r0;01", 1);
    dueFault("r111", 3);
    dueFault("r3u", 2);
    dueFault("01;r12;x", 4);
    String nine = "00;01;02;03;04;05;06;07;11";
    dueFault(nine, NONE);
    dueFault(nine + ";r5", NONE);
    dueFault(nine + ";", 27);
    dueFault(nine + ";12", 27);
    dueFault(nine + ";r5;12u", 30);
    dueFault(nine + ";8", 27);
    for (int bad : outside(0, 3)) due("fault(bad)", new StampsCancel().fault(bad), BAD);
  }

  private static void faultOfWays() {
    StampsCancel x = of("01;12u", "abBA", "abc", "?");
    due("fault(1)", x.fault(1), NONE);
    due("fault(2)", x.fault(2), 2);
    due("fault(3)", x.fault(3), 0);
    x.shut(3);
    due("SHUT ones are letters too", x.fault(1), NONE);
    tell(x, 0, "01;12u;23");
    due("fault(2) with one gate more", x.fault(2), NONE);
    tell(x, 0, "01;12u;23;");
    due("a land with a fault has no letters", x.fault(2), 0);
    tell(x, 0, "00;00;00;00;00;00;00;00;00");
    tell(x, 1, "iI");
    tell(x, 2, "J");
    tell(x, 3, "a@");
    due("the ninth gate", x.fault(1), NONE);
    due("no tenth", x.fault(2), 0);
    due("@ is ahead of A", x.fault(3), 1);
    tell(x, 3, "Ii`");
    due("` is ahead of a", x.fault(3), 2);
  }

  private static void gate() {
    promise = 5;
    StampsCancel x = of("05;71u");
    x.shut(2);
    int[] want = {0, 5, 1, 0, 7, 1, 0, 1};
    for (int g = 0; g < 2; g++) for (int what = 0; what < 4; what++) due("gate(" + g + ", " + what + ")", x.gate(g, what), want[4 * g + what]);
    for (int bad : outside(0, 1)) due("gate(bad)", x.gate(bad, 0), BAD);
    for (int bad : outside(0, 3)) due("gate(0, bad)", x.gate(0, bad), BAD);
    tell(x, 0, "05;");
    due("none with a fault", x.gate(0, 0), BAD);
  }

  private static void room() {
    promise = 6;
    due("not told", of("01").room(), 11);
    due("told", of("r4;01").room(), 4);
    due("the last one", of("r4;01;r7").room(), 7);
    due("two figures", of("r10").room(), 10);
    due("with a fault", of("r4;").room(), 11);
    due("a room that may not be", of("r4;r0").room(), 11);
  }

  private static void shut() {
    promise = 7;
    StampsCancel x = of("01;12", "ab");
    due("shut(1)", x.shut(1), 0);
    due("judged", x.judged(1, 0, 0, 0), 0);
    due("far", x.far(0, 1), NONE);
    due("shut(511)", x.shut(511), 1);
    for (int bad : outside(0, 511)) due("shut(bad)", x.shut(bad), BAD);
    due("not forgotten with the land", x.wipe(0), 5);
    tell(x, 0, "01");
    due("gate", x.gate(0, 3), 1);
    due("shut(0)", x.shut(0), 511);
    due("opened", x.judged(1, 0, 0, 0), NONE);
  }

  private static void paper() {
    promise = 8;
    StampsCancel x = of("01;12u;34", "acAabBc", "aBbA", "aaAAa");
    String want = "acc";
    due("an unwatched one is left out", x.paper(1, NONE), want.length());
    for (int i = 0; i < 3; i++) due("paper(1, " + i + ")", x.paper(1, i), want.charAt(i));
    due("beyond", x.paper(1, 3), NONE);
    due("far beyond", x.paper(1, Integer.MAX_VALUE), NONE);
    due("struck out around unwatched ones", x.paper(2, NONE), 0);
    due("paper(3, -1)", x.paper(3, NONE), 1);
    due("paper(3, 0)", x.paper(3, 0), 'a');
    tell(x, 2, "aaa?");
    due("with a fault", x.paper(2, NONE), 0);
    tell(x, 0, "01;r1;00");
    tell(x, 1, "bbbbbbbbbbbbbbbbbbbbbbbbbbbbbb");
    due("wherever, whatever room, SHUT or not", x.paper(1, NONE), 30);
    x.shut(3);
    due("the last", x.paper(1, 29), 'b');
    tell(x, 1, "AbBa");
    due("great ones first", x.paper(1, NONE), 0);
    for (int bad : outside(1, 3)) due("paper(bad)", x.paper(bad, 0), BAD);
    due("paper(1, -2)", x.paper(1, -2), BAD);
    due("paper(1, least)", x.paper(1, LEAST), BAD);
  }

  private static void dueJudged(StampsCancel x, int way, int town, int begins, int... want) {
    for (int what = 0; what < 5; what++) {
      due("judged(" + way + ", " + town + ", " + begins + ", " + what + ")", x.judged(way, town, begins, what), want[what]);
    }
  }

  private static void judged() {
    promise = 9;
    StampsCancel x = of("01;12;23u;r2", "abcCBA", "aBb", "ab");
    dueJudged(x, 1, 0, 0, NONE, 0, 2, 0, 2);
    dueJudged(x, 1, 1, 0, 0, 1, 0, 0, 0);
    dueJudged(x, 2, 0, 0, 1, 1, 1, 1, 0);
    dueJudged(x, 1, 0, 3, 0, 0, 2, 2, 0);
    tell(x, 2, "cCBA");
    dueJudged(x, 2, 2, 3, NONE, 0, 2, 0, 2);
    tell(x, 3, "aba");
    dueJudged(x, 2, 2, 3, 2, 2, 3, 3, 0);
    tell(x, 3, "aaab");
    dueJudged(x, 2, 2, 3, NONE, 0, 4, 2, 2);
    tell(x, 2, "cCb");
    dueJudged(x, 2, 2, 3, 2, 2, 4, 4, 0);
    x.shut(4);
    dueJudged(x, 2, 2, 0, 0, 2, 0, 0, 0);
    x.shut(0);
    tell(x, 2, "c?");
    dueJudged(x, 2, 5, 0, NONE, 5, 0, 0, 0);
    tell(x, 2, "");
    dueJudged(x, 2, 7, 3, NONE, 7, 4, 4, 0);
    StampsCancel y = of("00;r1", "aAa", "aa", "A");
    dueJudged(y, 1, 0, 0, NONE, 0, 1, 1, 1);
    dueJudged(y, 2, 0, 0, 1, 0, 1, 1, 0);
    dueJudged(y, 2, 0, 3, NONE, 0, 1, 1, 1);
    for (int bad : outside(1, 3)) due("judged(bad)", x.judged(bad, 0, 0, 0), BAD);
    for (int bad : outside(0, 7)) due("judged(1, bad)", x.judged(1, bad, 0, 0), BAD);
    for (int bad : outside(0, 3)) due("judged(1, 0, bad)", x.judged(1, 0, bad, 0), BAD);
    for (int bad : outside(0, 4)) due("judged(1, 0, 0, bad)", x.judged(1, 0, 0, bad), BAD);
  }

  private static void same() {
    promise = 10;
    StampsCancel x = of("01;12;23u", "ab", "aBbcb", "abb");
    due("same(1, 2)", x.same(1, 2), 1);
    due("same(1, 1)", x.same(1, 1), 1);
    due("one that goes on", x.same(1, 3), 0);
    due("one that goes on, ahead", x.same(3, 1), 0);
    tell(x, 3, "aB");
    due("small and great", x.same(1, 3), 0);
    tell(x, 2, "?");
    tell(x, 3, "cC");
    due("a fault and a clean one", x.same(2, 3), 1);
    for (int bad : outside(1, 3)) due("same(bad)", x.same(bad, 1), BAD);
    for (int bad : outside(1, 3)) due("same(1, bad)", x.same(1, bad), BAD);
  }

  private static void dueShortest(StampsCancel x, int from, int a, int to, int b, long gates, long ways) {
    String call = "shortest(" + from + ", " + a + ", " + to + ", " + b + ", ";
    due(call + "0)", x.shortest(from, a, to, b, 0), gates);
    due(call + "1)", x.shortest(from, a, to, b, 1), ways);
  }

  private static void shortest() {
    promise = 11;
    StampsCancel x = of("01;12;23u;32u;20", "ab", "aE", "B");
    dueShortest(x, 0, 0, 0, 0, 0, 1);
    dueShortest(x, 0, 0, 2, 1, 2, 1);
    dueShortest(x, 0, 0, 3, 1, 3, 2);
    dueShortest(x, 3, 1, 0, 0, 3, 2);
    dueShortest(x, 0, 0, 1, 0, NONE, 0);
    dueShortest(x, 2, 1, 1, 0, NONE, 0);
    dueShortest(x, 1, 3, 2, 0, 1, 1);
    dueShortest(x, 3, 1, 2, 1, 1, 2);
    dueShortest(x, 2, 1, 2, 2, NONE, 0);
    x.shut(8);
    dueShortest(x, 0, 0, 3, 1, 3, 1);
    x.shut(2);
    dueShortest(x, 0, 0, 3, 1, NONE, 0);
    tell(x, 0, "01;12;r1");
    x.shut(0);
    dueShortest(x, 2, 1, 2, 1, NONE, 0);
    dueShortest(x, 2, 1, 0, 0, NONE, 0);
    dueShortest(x, 0, 0, 2, 1, NONE, 0);
    tell(x, 0, "01;12;r2");
    dueShortest(x, 2, 1, 2, 1, 0, 1);
    StampsCancel y = of("03;01u;01u;12u;12u;23u;23u;34u;40u", "aaaaaaaaaaa", "AAAAAAAAAAA");
    dueShortest(y, 0, 0, 0, 1, 11 + 11 * 2, 1);
    y.shut(128);
    dueShortest(y, 0, 0, 0, 1, 11 * 4, 1L << 33);
    dueShortest(y, 0, 2, 0, 1, 22 * 4, 0);
    y.shut(128 + 2);
    dueShortest(y, 0, 2, 0, 1, 22 * 4, 1L << 44);
    due("BAD ahead of all", x.shortest(0, 0, 0, 0, 2), LONG_BAD);
    for (int bad : outside(0, 1)) due("shortest(what)", x.shortest(0, 0, 0, 0, bad), LONG_BAD);
    for (int bad : outside(0, 7)) due("shortest(from)", x.shortest(bad, 0, 0, 0, 0), LONG_BAD);
    for (int bad : outside(0, 7)) due("shortest(to)", x.shortest(0, 0, bad, 0, 0), LONG_BAD);
    for (int bad : outside(0, 3)) due("shortest(a)", x.shortest(0, bad, 0, 0, 0), LONG_BAD);
    for (int bad : outside(0, 3)) due("shortest(b)", x.shortest(0, 0, 0, bad, 0), LONG_BAD);
  }

  private static void letter() {
    promise = 12;
    StampsCancel x = of("01;12;23u;32u;20", "ab", "abe", "a");
    dueLeast(x, 0, 0, 3, 1, "abD");
    dueLeast(x, 3, 1, 2, 1, "C");
    dueLeast(x, 3, 2, 1, 3, "");
    dueLeast(x, 0, 2, 1, 3, "EB");
    dueLeast(x, 0, 0, 1, 0, "");
    due("letter(0, 0, 0, 0, 0)", x.letter(0, 0, 0, 0, 0), NONE);
    due("beyond", x.letter(0, 0, 3, 1, Integer.MAX_VALUE), NONE);
    StampsCancel y = of("10u;02u;13u;32u;01u", "");
    dueLeast(y, 1, 0, 2, 0, "Eb");
    y.shut(16);
    dueLeast(y, 1, 0, 2, 0, "ab");
    y.shut(17);
    dueLeast(y, 1, 0, 2, 0, "cd");
    for (int bad : new int[] {-1, LEAST}) due("letter(i)", x.letter(0, 0, 0, 0, bad), BAD);
    for (int bad : outside(0, 7)) due("letter(from)", x.letter(bad, 0, 0, 0, 0), BAD);
    for (int bad : outside(0, 7)) due("letter(to)", x.letter(0, 0, bad, 0, 0), BAD);
    for (int bad : outside(0, 3)) due("letter(a)", x.letter(0, bad, 0, 0, 0), BAD);
    for (int bad : outside(0, 3)) due("letter(b)", x.letter(0, 0, 0, bad, 0), BAD);
  }

  private static void dueErrands(StampsCancel x, int home, int towns, int fullest, int steps) {
    due("errands(" + home + ", " + towns + ", 0)", x.errands(home, towns, 0), fullest);
    due("errands(" + home + ", " + towns + ", 1)", x.errands(home, towns, 1), steps);
  }

  private static void errands() {
    promise = 13;
    // To 4: by one watched gate in 1, by unwatched ones in 3.
    StampsCancel x = of("04;01u;12u;24u;45;56;r2");
    dueErrands(x, 0, 0, 0, 0);
    dueErrands(x, 0, 1, 0, 0);
    dueErrands(x, 0, 16, 0, 6);
    dueErrands(x, 0, 32, 1, 8);
    dueErrands(x, 0, 48, 1, 10);
    dueErrands(x, 0, 64, 2, 10);
    dueErrands(x, 0, 80, 2, 12);
    dueErrands(x, 0, 128, NONE, NONE);
    dueErrands(x, 0, 144, NONE, NONE);
    dueErrands(x, 7, 128, 0, 0);
    x.shut(8);
    dueErrands(x, 0, 64, NONE, NONE);
    dueErrands(x, 0, 32, 2, 4);
    x.shut(0);
    tell(x, 0, "01;12;23;r2");
    dueErrands(x, 0, 4, 2, 4);
    dueErrands(x, 0, 8, NONE, NONE);
    dueErrands(x, 3, 2, 2, 4);
    tell(x, 0, "01;12;23;34;45;56;67");
    dueErrands(x, 0, 128, 7, 14);
    dueErrands(x, 0, 255, 7, 56);
    for (int bad : outside(0, 7)) due("errands(home)", x.errands(bad, 1, 0), BAD);
    for (int bad : outside(0, 255)) due("errands(towns)", x.errands(0, bad, 0), BAD);
    for (int bad : outside(0, 1)) due("errands(what)", x.errands(0, 1, bad), BAD);
  }

  private static void clean() {
    promise = 14;
    StampsCancel x = of("01;12;23;30u;34u;r1");
    due("clean(0)", x.clean(0), 31);
    due("clean(1)", x.clean(1), 1 + 2 + 4 + 8 + 16);
    x.shut(4);
    due("clean(1), c shut", x.clean(1), 1 + 2 + 4 + 8 + 16);
    x.shut(8);
    due("clean(0), d shut", x.clean(0), 3);
    due("clean(5)", x.clean(5), 32);
    tell(x, 0, "01;12;23;r2");
    x.shut(0);
    due("clean(0), room 2", x.clean(0), 7);
    for (int bad : outside(0, 7)) due("clean(bad)", x.clean(bad), BAD);
  }

  private static void dueFound(StampsCancel x, int way, int begun, int now) {
    due("found(" + way + ", 0)", x.found(way, 0), begun);
    due("found(" + way + ", 1)", x.found(way, 1), now);
  }

  private static void found() {
    promise = 15;
    StampsCancel x = of("01;23;12u;34u;50u;r1", "ab", "ba", "aA");
    dueFound(x, 1, 1 + 32, 8 + 16);
    dueFound(x, 2, 0, 0);
    dueFound(x, 3, 255, 255);
    tell(x, 2, "BA");
    dueFound(x, 2, 8 + 16, 1 + 32);
    tell(x, 3, "B?");
    dueFound(x, 3, 255, 255);
    x.shut(4);
    dueFound(x, 1, 0, 0);
    x.shut(16);
    dueFound(x, 1, 1, 8 + 16);
    x.shut(1);
    dueFound(x, 1, 0, 0);
    x.shut(511);
    dueFound(x, 3, 255, 255);
    for (int bad : outside(1, 3)) due("found(bad)", x.found(bad, 0), BAD);
    for (int bad : outside(0, 1)) due("found(1, bad)", x.found(1, bad), BAD);
  }

  private static void many() {
    promise = 16;
    StampsCancel x = of("00;r1", "a", "aA", "aaaaaaaaaaaa");
    long[] closed = {1, 0, 2, 0, 6, 0, 20, 0, 70, 0, 252, 0, 924};
    for (int n = 0; n <= 12; n++) due("many(0, 2, 0, " + n + ")", x.many(0, 2, 0, n), closed[n]);
    due("many(0, 1, 0, 11)", x.many(0, 1, 0, 11), 462);
    due("many(0, 3, 0, 12)", x.many(0, 3, 0, 12), 1);
    due("many(0, 3, 0, 11)", x.many(0, 3, 0, 11), 0);
    due("many(1, 2, 1, 0)", x.many(1, 2, 1, 0), 1);
    due("many(0, 2, 1, 0)", x.many(0, 2, 1, 0), 0);
    tell(x, 0, "00;00;00;00;00;00;00;00;00");
    due("loops of nine gates, 2", x.many(0, 2, 0, 2), 18);
    due("loops of nine gates, 4", x.many(0, 2, 0, 4), 18 * 18 + 18 * 17);
    due("loops of nine gates, 12", x.many(0, 2, 0, 12), 3631597308L);
    tell(x, 0, "00u;00u;00u;00u;00u;00u;00u;00u;00u");
    due("unwatched loops", x.many(0, 2, 0, 12), 1156831381426176L);
    tell(x, 0, "01;01u;12u");
    due("aAa, aBb, acC, bBa", x.many(0, 1, 1, 3), 4);
    x.shut(1);
    due("SHUT", x.many(0, 1, 1, 3), 0);
    x.shut(2);
    due("aAa, acC", x.many(0, 1, 1, 3), 2);
    for (int bad : outside(0, 7)) due("many(from)", x.many(bad, 1, 0, 0), LONG_BAD);
    for (int bad : outside(1, 3)) due("many(way)", x.many(0, bad, 0, 0), LONG_BAD);
    for (int bad : outside(0, 7)) due("many(to)", x.many(0, 1, bad, 0), LONG_BAD);
    for (int bad : outside(0, 12)) due("many(n)", x.many(0, 1, 0, bad), LONG_BAD);
  }

  private static void list() {
    promise = 17;
    StampsCancel x = of("01;12", "aAb", "b?");
    due("list(1, 1)", x.list(1, 1), 1);
    due("with a fault a clean one", x.list(2, 0), 2);
    due("good ones", x.count(7), 1);
    x.wipe(0);
    due("as it was", x.listed(0, 0), 'b');
    for (int bad : outside(1, 3)) due("list(bad)", x.list(bad, 1), BAD);
    for (int bad : outside(0, 1)) due("list(1, bad)", x.list(1, bad), BAD);
    for (int k = 3; k <= 12; k++) due("list(3, 0)", x.list(3, 0), k);
    due("FULL", x.list(3, 0), FULL);
    due("BAD ahead of FULL", x.list(3, 2), BAD);
    due("still 12", x.count(6), 12);
  }

  private static void lay(StampsCancel x, int s, int form, String items) {
    x.sheet(s, form, items.length());
    for (int i = 0; i < items.length(); i++) x.lay(s, form, i, items.charAt(i));
  }

  private static void read() {
    promise = 18;
    StampsCancel x = of("01;12u;23");
    lay(x, 0, 0, "acCb?CcA.");
    due("read(0)", x.read(0), 3);
    due("acCb", x.listed(0, NONE), 1);
    due("acCb at 0", x.listed(0, 0), 'a');
    due("CcA", x.listed(1, 0), 'A');
    due("behind the last end", x.listed(2, NONE), 0);
    due("good ones", x.count(7), 3);
    lay(x, 1, 2, "a??d");
    due("read(1)", x.read(1), 4);
    due("a", x.listed(3, NONE), 1);
    due("between two ends", x.listed(4, NONE), 0);
    due("d is of no gate", x.listed(5, NONE), 0);
    lay(x, 2, 1, "");
    due("no items", x.read(2), 1);
    due("clean", x.listed(7, NONE), 0);
    x.sheet(3, 2, 2);
    x.lay(3, 2, 0, 97 + 256);
    x.lay(3, 2, 1, 97);
    due("an item that is no byte", x.read(3), 2);
    due("it ended one", x.listed(8, NONE), 0);
    due("and then", x.listed(9, 0), 'a');
    due("as long as there is room", x.read(1), 2);
    due("none", x.read(1), 0);
    due("12", x.count(6), 12);
    StampsCancel y = of("00");
    lay(y, 0, 0, "aaaaaaaaaaaaaaaaaaaaaaaaaaaaaaaaaaaaaaaaaaaaaaaaaaaaaaaaaaaa");
    due("60 items", y.read(0), 1);
    due("60 stamps", y.listed(0, NONE), 60);
    y.wipe(0);
    due("no gates", y.read(0), 11);
    for (int bad : outside(0, 3)) due("read(bad)", y.read(bad), BAD);
    due("LOST", y.read(1), NULL);
    due("count(8)", y.count(8), 1);
  }

  private static void unlist() {
    promise = 19;
    StampsCancel x = of("01", "a", "");
    due("none", x.unlist(), NOT);
    x.list(1, 1);
    x.list(2, 0);
    due("one left", x.unlist(), 1);
    due("the first stays", x.listed(0, 0), 'a');
    due("none left", x.unlist(), 0);
    due("NOT", x.unlist(), NOT);
    due("list again", x.list(2, 1), 1);
    due("anew", x.listed(0, 0), NONE);
  }

  private static void listed() {
    promise = 20;
    StampsCancel x = of("00;00", "abababababababab");
    x.list(1, 0);
    due("stamps", x.listed(0, NONE), 16);
    due("first", x.listed(0, 0), 'a');
    due("place 9", x.listed(0, 9), 'b');
    due("place 10", x.listed(0, 10), 'a');
    due("place 11", x.listed(0, 11), BAD);
    due("below NONE", x.listed(0, -2), BAD);
    for (int bad : outside(0, 0)) due("listed(bad)", x.listed(bad, 0), BAD);
    tell(x, 1, "AB");
    x.list(1, 1);
    due("great", x.listed(1, 1), 'B');
    due("no stamp", x.listed(1, 2), NONE);
  }

  private static void lets() {
    promise = 21;
    StampsCancel x = of("00;00", "ab", "aB", "abb");
    due("without such a one nobody", x.lets(1, 0), 0);
    x.list(1, 0);
    due("nor with one that is not good", x.lets(1, 0), 0);
    x.list(1, 1);
    due("with no places all", x.lets(2, 0), 1);
    due("the same stamp", x.lets(2, 1), 1);
    due("another", x.lets(2, 2), 0);
    due("at all of these", x.lets(2, 3), 0);
    due("no stamp and a stamp", x.lets(3, 4), 0);
    due("no stamp and no stamp", x.lets(3, 8), 1);
    due("all places", x.lets(1, 2047), 1);
    x.list(2, 1);
    due("of one, not of several", x.lets(3, 6), 0);
    tell(x, 1, "aaaaaaaaaaaab");
    tell(x, 2, "aaaaaaaaaaaa");
    tell(x, 3, "aaaaaaaaaab");
    x.list(1, 1);
    due("beyond the places", x.lets(2, 2047), 1);
    due("the last place", x.lets(3, 1024), 0);
    for (int bad : outside(1, 3)) due("lets(bad)", x.lets(bad, 0), BAD);
    for (int bad : outside(0, 2047)) due("lets(1, bad)", x.lets(1, bad), BAD);
  }

  private static void slips() {
    promise = 22;
    StampsCancel x = of("00;00", "ab", "aB", "b");
    x.list(2, 0);
    x.list(3, 0);
    due("nobody is let by", x.slips(0), 0);
    x.list(1, 1);
    due("all", x.slips(0), 2);
    due("place 0", x.slips(1), 1);
    due("place 1", x.slips(2), 0);
    due("place 2", x.slips(4), 2);
    x.list(3, 1);
    due("a good one like it", x.slips(2047), 1);
    for (int bad : outside(0, 2047)) due("slips(bad)", x.slips(bad), BAD);
  }

  private static void fewest() {
    promise = 23;
    StampsCancel x = of("00;00", "ab", "aB", "bb");
    due("none is LISTED", x.fewest(), 0);
    x.list(2, 0);
    due("no good one", x.fewest(), 0);
    x.list(1, 1);
    due("place 1", x.fewest(), 2);
    x.list(3, 0);
    due("places 0 and 1", x.fewest(), 3);
    x.unlist();
    x.list(1, 0);
    due("a bad one as a good one", x.fewest(), NONE);
    StampsCancel y = of("00;00", "aaaaaaaaaaaa", "aaaaaaaaaaab", "aaaaaaaaaabb");
    y.list(1, 1);
    y.list(3, 0);
    due("the last place", y.fewest(), 1024);
    y.list(2, 0);
    due("unlike beyond the places", y.fewest(), NONE);
    StampsCancel z = of("00;00", "aaa", "bba", "");
    z.list(1, 1);
    z.list(2, 0);
    due("the least of like ones", z.fewest(), 1);
    z.list(3, 0);
    due("still", z.fewest(), 1);
    tell(z, 2, "abb");
    z.list(2, 0);
    tell(z, 2, "aa");
    z.list(2, 0);
    due("two of three", z.fewest(), 5);
    StampsCancel all = of("00;00", "aaaaaaaaaaa");
    all.list(1, 1);
    for (int place = 0; place < 11; place++) {
      due("the places ahead", all.fewest(), (1 << place) - 1);
      StringBuilder unlike = new StringBuilder("aaaaaaaaaaa");
      unlike.setCharAt(place, 'b');
      tell(all, 2, unlike.toString());
      all.list(2, 0);
    }
    due("all places", all.fewest(), 2047);
  }

  private static void far() {
    promise = 24;
    StampsCancel x = of("01;12u;23;30u;r1");
    due("far(0, 2)", x.far(0, 2), 2);
    due("far(2, 0)", x.far(2, 0), 2);
    due("far(0, 0)", x.far(0, 0), 0);
    due("far(0, 3)", x.far(0, 3), 1);
    due("far(0, 4)", x.far(0, 4), NONE);
    due("far(7, 7)", x.far(7, 7), 0);
    x.shut(8);
    due("SHUT", x.far(0, 3), 3);
    for (int bad : outside(0, 7)) due("far(bad)", x.far(bad, 0), BAD);
    for (int bad : outside(0, 7)) due("far(0, bad)", x.far(0, bad), BAD);
  }

  private static void dueWithout(StampsCancel x, int gate, int pairs, int most) {
    due("without(" + gate + ", 0)", x.without(gate, 0), pairs);
    due("without(" + gate + ", 1)", x.without(gate, 1), most);
  }

  private static void without() {
    promise = 25;
    StampsCancel x = of("01;12u;23;30;45;54;67u;66");
    dueWithout(x, 0, 1, 2);
    dueWithout(x, 4, 0, 0);
    dueWithout(x, 6, 1, 0);
    dueWithout(x, 7, 0, 0);
    x.shut(16);
    dueWithout(x, 4, 0, 0);
    dueWithout(x, 5, 1, 0);
    x.shut(1);
    dueWithout(x, 2, 4, 0);
    due("nothing is shut by asking", x.shut(0), 1);
    tell(x, 0, "01;12;23;34;45;56;67;70");
    dueWithout(x, 7, 3 + 2 + 1, 6);
    for (int bad : outside(0, 7)) due("without(bad)", x.without(bad, 0), BAD);
    for (int bad : outside(0, 1)) due("without(0, bad)", x.without(0, bad), BAD);
  }

  private static void dueWith(StampsCancel x, int a, int b, int pairs, int most) {
    due("with(" + a + ", " + b + ", 0)", x.with(a, b, 0), pairs);
    due("with(" + a + ", " + b + ", 1)", x.with(a, b, 1), most);
  }

  private static void with() {
    promise = 26;
    StampsCancel x = of("01;12;23;34u;66;66;66;66;66");
    dueWith(x, 0, 4, 3, 3);
    dueWith(x, 4, 0, 3, 3);
    dueWith(x, 0, 1, 0, 0);
    dueWith(x, 0, 0, 0, 0);
    dueWith(x, 0, 5, 5, 0);
    dueWith(x, 5, 7, 1, 0);
    x.shut(1);
    dueWith(x, 0, 1, 4, 0);
    for (int bad : outside(0, 7)) due("with(bad)", x.with(bad, 0, 0), BAD);
    for (int bad : outside(0, 7)) due("with(0, bad)", x.with(0, bad, 0), BAD);
    for (int bad : outside(0, 1)) due("with(0, 0, bad)", x.with(0, 0, bad), BAD);
    due("nothing new by asking", x.count(0), 9);
  }

  private static void sheet() {
    promise = 27;
    StampsCancel x = new StampsCancel();
    due("sheet(0, 2, 60)", x.sheet(0, 2, 60), 60);
    due("0 at first", x.get(0, 2, 59), 0);
    x.lay(0, 2, 59, 5);
    due("new", x.sheet(0, 2, 60), 60);
    due("0 again", x.get(0, 2, 59), 0);
    due("above 60", x.sheet(0, 2, 61), BAD);
    due("far above", x.sheet(0, 2, Integer.MAX_VALUE), BAD);
    due("below 0", x.sheet(0, 2, -1), SIZE);
    due("count(8)", x.count(8), 5);
    due("unchanged", x.get(0, 2, 59), 0);
    due("far below", x.sheet(1, 0, LEAST), SIZE);
    due("BAD ahead of SIZE", x.sheet(4, 0, -1), BAD);
    due("BAD ahead of SIZE", x.sheet(0, 3, -1), BAD);
    due("still LOST", x.lose(1), NULL);
    for (int bad : outside(0, 3)) due("sheet(bad)", x.sheet(bad, 0, 0), BAD);
    for (int bad : outside(0, 2)) due("sheet(0, bad)", x.sheet(0, bad, 0), BAD);
    due("another FORM", x.sheet(0, 1, 0), 0);
    due("of no items", x.get(0, 1, 0), LEAST);
    due("INDEX", x.count(8), 2);
  }

  private static void lose() {
    promise = 28;
    StampsCancel x = new StampsCancel();
    x.sheet(3, 1, 7);
    due("lose(3)", x.lose(3), 7);
    due("again", x.lose(3), NULL);
    due("count(8)", x.count(8), 1);
    x.sheet(2, 0, 0);
    due("of no items", x.lose(2), 0);
    for (int bad : outside(0, 3)) due("lose(bad)", x.lose(bad), BAD);
  }

  private static void dueLaid(int form, int v, int want) {
    StampsCancel x = new StampsCancel();
    x.sheet(1, form, 2);
    due("lay", x.lay(1, form, 1, v), 1);
    due("laid " + v + " in FORM " + form, x.get(1, form, 1), want);
    due("beside it", x.get(1, form, 0), 0);
  }

  private static void lay() {
    promise = 29;
    dueLaid(0, 127, 127);
    dueLaid(0, 128, -128);
    dueLaid(0, 511, -1);
    dueLaid(1, 32767, 32767);
    dueLaid(1, 32768, -32768);
    dueLaid(1, 65536 + 200, 200);
    dueLaid(2, LEAST, LEAST);
    dueLaid(2, 65536, 65536);
    StampsCancel x = new StampsCancel();
    due("NULL ahead of CAST", x.lay(0, 1, 5, 0), NULL);
    x.sheet(0, 0, 3);
    due("CAST ahead of INDEX", x.lay(0, 1, 3, 0), CAST);
    due("count(8)", x.count(8), 3);
    for (int bad : outside(0, 2)) due("INDEX", x.lay(0, 0, bad, 0), INDEX);
    due("count(8)", x.count(8), 2);
    for (int bad : outside(0, 3)) due("lay(bad)", x.lay(bad, 0, 0, 0), BAD);
    for (int bad : outside(0, 2)) due("lay(0, bad)", x.lay(0, bad, 0, 0), BAD);
    due("BAD is no FINDING", x.count(8), 2);
  }

  private static void get() {
    promise = 30;
    StampsCancel x = new StampsCancel();
    due("BAD", x.get(4, 0, 0), LEAST);
    due("no FINDING", x.count(8), 0);
    due("NULL", x.get(0, 1, 9), LEAST);
    due("NULL is told", x.count(8), 1);
    x.sheet(0, 0, 3);
    due("CAST", x.get(0, 1, 9), LEAST);
    due("CAST is told", x.count(8), 3);
    due("INDEX", x.get(0, 0, 3), LEAST);
    due("INDEX is told", x.count(8), 2);
    due("INDEX below", x.get(0, 0, -1), LEAST);
    x.lay(0, 0, 2, 77);
    due("get(0, 0, 2)", x.get(0, 0, 2), 77);
    for (int bad : outside(0, 3)) due("get(bad)", x.get(bad, 0, 0), LEAST);
    for (int bad : outside(0, 2)) due("get(0, bad)", x.get(0, bad, 0), LEAST);
    due("the latest stays", x.count(8), 2);
  }

  private static void dueItems(StampsCancel x, int s, int form, String want) {
    for (int i = 0; i < want.length(); i++) due("item " + i + " of " + want, x.get(s, form, i), want.charAt(i));
  }

  private static void copy() {
    promise = 31;
    StampsCancel x = new StampsCancel();
    due("NULL: s", x.copy(0, 0, 1, 0, 0), NULL);
    lay(x, 0, 1, "abcde");
    due("NULL: t", x.copy(0, 9, 1, 9, -1), NULL);
    lay(x, 1, 1, "vwxyz");
    due("copy", x.copy(0, 1, 1, 2, 3), 1);
    dueItems(x, 1, 1, "vwbcd");
    due("onto itself, up", x.copy(0, 0, 0, 1, 4), 1);
    dueItems(x, 0, 1, "aabcd");
    due("onto itself, down", x.copy(0, 2, 0, 0, 3), 1);
    dueItems(x, 0, 1, "bcdcd");
    due("none, at the ends", x.copy(0, 5, 1, 5, 0), 1);
    due("none, beyond i", x.copy(0, 6, 1, 0, 0), INDEX);
    due("none, beyond j", x.copy(0, 0, 1, 6, 0), INDEX);
    due("not so many in s", x.copy(0, 3, 1, 0, 3), INDEX);
    due("not so many in t", x.copy(0, 0, 1, 3, 3), INDEX);
    due("i below 0", x.copy(0, -1, 1, 0, 1), INDEX);
    due("j below 0", x.copy(0, 0, 1, -1, 1), INDEX);
    due("n below 0", x.copy(0, 1, 1, 1, -1), INDEX);
    due("a sum that wraps", x.copy(0, 3, 1, 3, Integer.MAX_VALUE), INDEX);
    due("sums that wrap", x.copy(0, Integer.MAX_VALUE, 1, Integer.MAX_VALUE, Integer.MAX_VALUE), INDEX);
    dueItems(x, 1, 1, "vwbcd");
    lay(x, 2, 2, "abc");
    due("STORE ahead of INDEX", x.copy(0, 9, 2, 9, 9), STORE);
    due("count(8)", x.count(8), 4);
    for (int bad : outside(0, 3)) due("copy(bad)", x.copy(bad, 0, 3, 0, 0), BAD);
    for (int bad : outside(0, 3)) due("copy(0, 0, bad)", x.copy(0, 0, bad, 0, 0), BAD);
    due("as it was", x.count(8), 4);
  }

  private static void write() {
    promise = 32;
    StampsCancel x = of("00;00", "abA", "aA");
    due("NULL", x.write(1, 0), NULL);
    for (int form = 0; form < 3; form++) {
      lay(x, form, form, "?????");
      due("write(1)", x.write(1, form), 3);
      dueItems(x, form, form, "abA??");
      due("a clean one", x.write(2, form), 0);
      dueItems(x, form, form, "abA??");
    }
    lay(x, 3, 0, "??");
    due("as many as there are items", x.write(1, 3), 2);
    dueItems(x, 3, 0, "ab");
    x.sheet(3, 0, 0);
    due("of no items", x.write(1, 3), 0);
    for (int bad : outside(1, 3)) due("write(bad)", x.write(bad, 0), BAD);
    for (int bad : outside(0, 3)) due("write(1, bad)", x.write(1, bad), BAD);
  }

  private static void count() {
    promise = 33;
    StampsCancel x = of("01;12u;23", "a", "ab", "abc");
    x.list(1, 1);
    x.list(1, 0);
    x.list(1, 1);
    x.lose(0);
    int[] want = {3, 2, 9, 1, 2, 3, 3, 2, 1};
    for (int what = 0; what <= 8; what++) due("count(" + what + ")", x.count(what), want[what]);
    for (int bad : outside(0, 8)) due("count(bad)", x.count(bad), BAD);
    tell(x, 0, "01;");
    due("with a fault", x.count(0), 0);
    due("watched", x.count(1), 0);
    due("bytes", x.count(2), 3);
  }

  /** The sum as the document tells it, over the answers of the other calls. */
  private static long sum(StampsCancel x) {
    long h = 17;
    for (int i = 0; i <= 7; i++) h = 31 * h + x.count(i);
    for (int i = 0; i <= 3; i++) h = 31 * h + x.fault(i);
    h = 31 * h + x.room();
    for (int g = 0; g < x.count(0); g++) {
      for (int i = 0; i <= 3; i++) h = 31 * h + x.gate(g, i);
      h = 31 * (31 * h + x.without(g, 0)) + x.without(g, 1);
    }
    for (int w = 1; w <= 3; w++) {
      for (int i = NONE; i < x.paper(w, NONE); i++) h = 31 * h + x.paper(w, i);
      for (int i = 0; i <= 4; i++) h = 31 * h + x.judged(w, 0, 0, i);
      h = 31 * (31 * h + x.found(w, 0)) + x.found(w, 1);
      int t = x.judged(w, 0, 0, 1);
      h = 31 * (31 * h + x.shortest(0, 0, t, w, 0)) + x.shortest(0, 0, t, w, 1);
      h = 31 * h + x.many(0, w, t, 6);
    }
    h = 31 * h + x.same(1, 2);
    for (int t = 0; t < 8; t++) {
      h = 31 * (31 * h + x.clean(t)) + x.far(0, t);
      h = 31 * (31 * h + x.errands(0, 1 << t, 0)) + x.errands(0, 1 << t, 1);
    }
    return 31 * (31 * h + x.slips(7)) + x.fewest();
  }

  private static void digest() {
    promise = 34;
    StampsCancel x = new StampsCancel();
    due("a new object", x.digest(), sum(x));
    x.lose(0);
    due("FINDINGS are not told", x.digest(), new StampsCancel().digest());
    StampsCancel y = of("01;12;20u;34;r2", "abc", "bBa", "abab");
    y.shut(8);
    y.list(1, 1);
    y.list(2, 0);
    due("a land", y.digest(), sum(y));
    long before = y.digest();
    y.shut(1);
    due("another with a gate shut", y.digest() == before ? 1 : 0, 0);
    due("its sum", y.digest(), sum(y));
    y.shut(8);
    due("as it was", y.digest(), before);
  }
}
