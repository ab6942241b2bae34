import java.util.ArrayList;
import java.util.List;

/** What the document says of all refusals: every number of every call at its least, at its most, and beyond. */
final class SentencesOfRefusals extends Sentence {
  private interface Call {
    long on(StampsCancel x, int[] numbers);
  }

  /** A call that is well with these numbers, each of which may be from least to most. */
  private static final class Act {
    final String name;
    final Call call;
    final long refusal;
    final int[] well;
    final int[] least, most;

    Act(String name, long refusal, Call call, int... wellLeastMost) {
      this.name = name;
      this.refusal = refusal;
      this.call = call;
      int numbers = wellLeastMost.length / 3;
      well = new int[numbers];
      least = new int[numbers];
      most = new int[numbers];
      for (int k = 0; k < numbers; k++) {
        well[k] = wellLeastMost[3 * k];
        least[k] = wellLeastMost[3 * k + 1];
        most[k] = wellLeastMost[3 * k + 2];
      }
    }

    int[] with(int k, int number) {
      int[] numbers = well.clone();
      numbers[k] = number;
      return numbers;
    }

    String told(int[] numbers) {
      StringBuilder s = new StringBuilder(name).append('(');
      for (int k = 0; k < numbers.length; k++) s.append(k == 0 ? "" : ", ").append(numbers[k]);
      return s.append(')').toString();
    }
  }

  private static final List<Act> ACTS = List.of(
      new Act("type", BAD, (x, n) -> x.type(n[0], n[1]), 2, 0, 3, 97, 0, 255),
      new Act("wipe", BAD, (x, n) -> x.wipe(n[0]), 3, 0, 3),
      new Act("fault", BAD, (x, n) -> x.fault(n[0]), 0, 0, 3),
      new Act("gate", BAD, (x, n) -> x.gate(n[0], n[1]), 0, 0, 3, 0, 0, 3),
      new Act("shut", BAD, (x, n) -> x.shut(n[0]), 0, 0, 511),
      new Act("paper", BAD, (x, n) -> x.paper(n[0], n[1]), 1, 1, 3, 0, NONE, MOST),
      new Act("judged", BAD, (x, n) -> x.judged(n[0], n[1], n[2], n[3]), 1, 1, 3, 0, 0, 7, 0, 0, 3, 0, 0, 4),
      new Act("same", BAD, (x, n) -> x.same(n[0], n[1]), 1, 1, 3, 1, 1, 3),
      new Act("shortest", LONG_BAD, (x, n) -> x.shortest(n[0], n[1], n[2], n[3], n[4]), 0, 0, 7, 0, 0, 3, 0, 0, 7, 0, 0, 3, 0, 0, 1),
      new Act("letter", BAD, (x, n) -> x.letter(n[0], n[1], n[2], n[3], n[4]), 0, 0, 7, 0, 0, 3, 0, 0, 7, 0, 0, 3, 0, 0, MOST),
      new Act("errands", BAD, (x, n) -> x.errands(n[0], n[1], n[2]), 0, 0, 7, 0, 0, 255, 0, 0, 1),
      new Act("clean", BAD, (x, n) -> x.clean(n[0]), 0, 0, 7),
      new Act("found", BAD, (x, n) -> x.found(n[0], n[1]), 1, 1, 3, 0, 0, 1),
      new Act("many", LONG_BAD, (x, n) -> x.many(n[0], n[1], n[2], n[3]), 0, 0, 7, 1, 1, 3, 0, 0, 7, 0, 0, 12),
      new Act("list", BAD, (x, n) -> x.list(n[0], n[1]), 1, 1, 3, 0, 0, 1),
      new Act("read", BAD, (x, n) -> x.read(n[0]), 0, 0, 3),
      new Act("listed", BAD, (x, n) -> x.listed(n[0], n[1]), 0, 0, 2, 0, NONE, 10),
      new Act("lets", BAD, (x, n) -> x.lets(n[0], n[1]), 1, 1, 3, 0, 0, 2047),
      new Act("slips", BAD, (x, n) -> x.slips(n[0]), 0, 0, 2047),
      new Act("far", BAD, (x, n) -> x.far(n[0], n[1]), 0, 0, 7, 0, 0, 7),
      new Act("without", BAD, (x, n) -> x.without(n[0], n[1]), 0, 0, 3, 0, 0, 1),
      new Act("with", BAD, (x, n) -> x.with(n[0], n[1], n[2]), 0, 0, 7, 0, 0, 7, 0, 0, 1),
      new Act("sheet", BAD, (x, n) -> x.sheet(n[0], n[1], n[2]), 0, 0, 3, 0, 0, 2, 0, LEAST, 60),
      new Act("lose", BAD, (x, n) -> x.lose(n[0]), 0, 0, 3),
      new Act("lay", BAD, (x, n) -> x.lay(n[0], n[1], n[2], n[3]), 0, 0, 3, 0, 0, 2, 0, LEAST, MOST, 5, LEAST, MOST),
      new Act("get", LEAST, (x, n) -> x.get(n[0], n[1], n[2]), 0, 0, 3, 0, 0, 2, 0, LEAST, MOST),
      new Act("copy", BAD, (x, n) -> x.copy(n[0], n[1], n[2], n[3], n[4]),
          0, 0, 3, 0, LEAST, MOST, 0, 0, 3, 1, LEAST, MOST, 1, LEAST, MOST),
      new Act("write", BAD, (x, n) -> x.write(n[0], n[1]), 1, 1, 3, 0, 0, 3),
      new Act("count", BAD, (x, n) -> x.count(n[0]), 0, 0, 8));

  /** Something of everything: four GATES, three LISTED, a SHEET of each FORM and one that is LOST. */
  private static StampsCancel rich() {
    StampsCancel x = of("01;12;20u;34;r3", "abc", "aBbA", "?");
    x.shut(8);
    x.list(1, 1);
    x.list(2, 0);
    x.list(1, 0);
    lay(x, 0, 0, 'a', 'b', 3);
    lay(x, 1, 1, 300, -300);
    lay(x, 2, 2, 70000);
    x.lay(0, 1, 0, 0);
    return x;
  }

  /** As rich(), with all texts full and as many LISTED as there may be. */
  private static StampsCancel full() {
    StampsCancel x = rich();
    type(x, 0, ";r3;r3;r3;r3;r3;r3;r3;r3;r3;r03;r03");
    for (int way = 1; way <= 3; way++) for (int i = 0; i < 30; i++) x.type(way, 'a');
    for (int k = 0; k < 9; k++) x.list(1, k & 1);
    return x;
  }

  /** All that can be asked of an object's state, but for the latest FINDING. */
  private static List<Long> state(StampsCancel x) {
    List<Long> all = new ArrayList<>();
    all.add(x.digest());
    int shut = x.shut(0);
    x.shut(shut);
    all.add((long) shut);
    for (int k = 0; k < x.count(6); k++) for (int i = NONE; i < 11; i++) all.add((long) x.listed(k, i));
    for (int s = 0; s < 4; s++) for (int form = 0; form < 3; form++) for (int i = 0; i < 5; i++) all.add((long) x.get(s, form, i));
    for (int way = 1; way <= 3; way++) for (int town = 0; town < 5; town++) all.add((long) x.judged(way, town, 1, 3));
    for (int text = 0; text < 4; text++) all.add((long) x.wipe(text));
    return all;
  }

  static void all() {
    in("Terms");
    says("Refusals, the first that fits, in the order told at each act: BAD -2 (a number not as told, no such thing)", SentencesOfRefusals::bad);
    says("NULL, NOT -3 (as told), FULL -4, other FINDINGS.", SentencesOfRefusals::order);
    says("They change nothing (FINDINGS but count() 8).", SentencesOfRefusals::changeNothing);
    says("Where the answer is a long, a refusal -x is the least long and x more.", SentencesOfRefusals::longs);
  }

  private static void bad() {
    due("BAD", StampsCancel.BAD, -2);
    for (Act act : ACTS) {
      dueUnlike(act.told(act.well), act.call.on(rich(), act.well), act.refusal);
      for (int k = 0; k < act.well.length; k++) {
        boolean getItem = act.name.equals("get") && k != 1;
        if (!getItem) dueUnlike(act.told(act.with(k, act.least[k])), act.call.on(rich(), act.with(k, act.least[k])), act.refusal);
        if (act.refusal != LEAST) dueUnlike(act.told(act.with(k, act.most[k])), act.call.on(rich(), act.with(k, act.most[k])), act.refusal);
        for (int number : beyond(act, k)) due(act.told(act.with(k, number)), act.call.on(rich(), act.with(k, number)), act.refusal);
      }
    }
  }

  private static List<Integer> beyond(Act act, int k) {
    List<Integer> numbers = new ArrayList<>();
    if (act.least[k] != LEAST) numbers.addAll(List.of(act.least[k] - 1, LEAST));
    if (act.most[k] != MOST) numbers.addAll(List.of(act.most[k] + 1, MOST));
    return numbers;
  }

  private static void order() {
    due("NOT", StampsCancel.NOT, -3);
    due("FULL", StampsCancel.FULL, -4);
    StampsCancel x = full();
    due("a text is full", x.type(0, 0), FULL);
    due("no byte, ahead of that", x.type(0, 256), BAD);
    due("the list is full", x.list(1, 0), FULL);
    due("no such way, ahead of that", x.list(0, 0), BAD);
    due("neither good nor not, ahead of that", x.list(1, 2), BAD);
    due("lost, though the list is full", x.read(3), NULL);
    due("no such sheet", x.read(4), BAD);
    due("no such way, though lost", x.write(4, 3), BAD);
    due("no such form, though lost", x.lay(3, 3, 0, 0), BAD);
    due("lost, though no such item", x.lay(3, 0, -1, 0), NULL);
    due("another form, though no such item", x.lay(0, 2, -1, 0), CAST);
    due("no such sheet, though the other is lost", x.copy(3, 0, 4, 0, 0), BAD);
    due("lost, though of unlike forms", x.copy(0, 0, 3, 0, 0), NULL);
    due("unlike forms, though no such item", x.copy(0, -1, 1, 0, 0), STORE);
    due("no such form, though below 0", x.sheet(0, 3, -1), BAD);
    for (int k = 0; k < 12; k++) x.unlist();
    due("none is listed", x.unlist(), NOT);
  }

  private static void dueUnchanged(String call, StampsCancel after, StampsCancel before, int finding) {
    due("the latest finding behind " + call, after.count(8), finding);
    due("all else behind " + call, state(after).equals(state(before)) ? 1 : 0, 1);
  }

  private static void changeNothing() {
    for (Act act : ACTS) {
      for (int k = 0; k < act.well.length; k++) {
        for (int number : beyond(act, k)) {
          StampsCancel x = rich();
          act.call.on(x, act.with(k, number));
          dueUnchanged(act.told(act.with(k, number)), x, rich(), 3);
        }
      }
    }
    Act type = ACTS.get(0), list = ACTS.get(14);
    for (int text = 0; text < 4; text++) {
      StampsCancel x = full();
      due("full", type.call.on(x, type.with(0, text)), FULL);
      dueUnchanged("type(" + text + ", 97)", x, full(), 3);
    }
    StampsCancel x = full();
    due("full", list.call.on(x, list.well), FULL);
    dueUnchanged("list(1, 0)", x, full(), 3);
    x = new StampsCancel();
    due("none", x.unlist(), NOT);
    dueUnchanged("unlist()", x, new StampsCancel(), 0);
    findingsChangeNothing();
  }

  private static void dueFinding(String name, int answer, int finding, Call call) {
    StampsCancel x = rich();
    due(name, call.on(x, null), answer);
    dueUnchanged(name, x, rich(), finding);
  }

  private static void findingsChangeNothing() {
    dueFinding("sheet(0, 0, -1)", SIZE, 5, (x, n) -> x.sheet(0, 0, -1));
    dueFinding("sheet(3, 0, -1)", SIZE, 5, (x, n) -> x.sheet(3, 0, -1));
    dueFinding("lose(3)", NULL, 1, (x, n) -> x.lose(3));
    dueFinding("lay(3, 0, 0, 9)", NULL, 1, (x, n) -> x.lay(3, 0, 0, 9));
    dueFinding("lay(0, 1, 0, 9)", CAST, 3, (x, n) -> x.lay(0, 1, 0, 9));
    dueFinding("lay(0, 0, 3, 9)", INDEX, 2, (x, n) -> x.lay(0, 0, 3, 9));
    dueFinding("get(3, 0, 0)", LEAST, 1, (x, n) -> x.get(3, 0, 0));
    dueFinding("get(0, 1, 0)", LEAST, 3, (x, n) -> x.get(0, 1, 0));
    dueFinding("get(0, 0, 3)", LEAST, 2, (x, n) -> x.get(0, 0, 3));
    dueFinding("copy(0, 0, 3, 0, 1)", NULL, 1, (x, n) -> x.copy(0, 0, 3, 0, 1));
    dueFinding("copy(3, 0, 0, 0, 1)", NULL, 1, (x, n) -> x.copy(3, 0, 0, 0, 1));
    dueFinding("copy(0, 0, 1, 0, 1)", STORE, 4, (x, n) -> x.copy(0, 0, 1, 0, 1));
    dueFinding("copy(0, 0, 0, 2, 2)", INDEX, 2, (x, n) -> x.copy(0, 0, 0, 2, 2));
    dueFinding("write(1, 3)", NULL, 1, (x, n) -> x.write(1, 3));
    dueFinding("read(3)", NULL, 1, (x, n) -> x.read(3));
  }

  private static void longs() {
    StampsCancel x = rich();
    due("shortest", x.shortest(8, 0, 0, 0, 0), Long.MIN_VALUE + 2);
    due("many", x.many(0, 0, 0, 0), Long.MIN_VALUE + 2);
    due("NONE is no refusal", x.shortest(0, 0, 1, 0, 0), NONE);
  }
}
