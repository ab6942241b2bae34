/** Sheets, findings, counts, the digest (promises 27 to 34). */
final class SentencesOfSheets extends Sentence {
  static void all() {
    in("Terms");
    terms();
    sheet();
    lose();
    lay();
    get();
    copy();
    write();
    count();
    in("Promise 34");
    digest();
  }

  private static void terms() {
    says("FRACTIONS are not told here.", () -> {
      StampsCancel x = new StampsCancel();
      due("there is no form of fractions", x.sheet(0, 3, 1), BAD);
    });
    says("SHEETS 0 .. 3 are LOST (at first) or a row of a FORM: 0 bytes, 1 shorts, 2 ints, of 0 to 60 items (0 at first).", () -> {
      StampsCancel x = new StampsCancel();
      for (int s = 0; s < 4; s++) due("lost at first", x.lose(s), NULL);
      due("no sheet -1", x.lose(-1), BAD);
      due("no sheet 4", x.lose(4), BAD);
      int[] most = {127, 32767, MOST};
      for (int form = 0; form < 3; form++) {
        due("sixty items", x.sheet(form, form, 60), 60);
        for (int i = 0; i < 60; i++) due("0 at first", x.get(form, form, i), 0);
        due("the greatest", x.lay(form, form, 59, most[form]), 1);
        due("it stays", x.get(form, form, 59), most[form]);
        x.lay(form, form, 59, most[form] + 1);
        due("the least", x.get(form, form, 59), -most[form] - 1);
        due("no items", x.sheet(form, form, 0), 0);
        due("none there", x.lay(form, form, 0, 1), INDEX);
      }
      due("sixty-one", x.sheet(3, 0, 61), BAD);
      due("still lost", x.lose(3), NULL);
    });
    says("FINDINGS (answers -10 less the number; they change nothing but count() 8)", () -> {
      StampsCancel x = new StampsCancel();
      due("none yet", x.count(8), 0);
      x.sheet(0, 0, 2);
      x.sheet(1, 1, 2);
      due("SIZE", x.sheet(0, 0, -1), -10 - 5);
      due("count(8)", x.count(8), 5);
      due("STORE", x.copy(0, 0, 1, 0, 1), -10 - 4);
      due("count(8)", x.count(8), 4);
      due("CAST", x.lay(0, 1, 0, 9), -10 - 3);
      due("count(8)", x.count(8), 3);
      due("INDEX", x.lay(0, 0, 2, 9), -10 - 2);
      due("count(8)", x.count(8), 2);
      due("NULL", x.lay(2, 0, 0, 9), -10 - 1);
      due("count(8)", x.count(8), 1);
      dueItems(x, 0, 0, 0, 0);
      dueItems(x, 1, 1, 0, 0);
      x.lose(2);
      due("what is well is none", x.lay(0, 0, 1, 7) + x.count(8), 2);
    });
    says("1 NULL: the SHEET is LOST", () -> {
      StampsCancel x = of("00", "a");
      x.sheet(0, 0, 1);
      int[] answers = {x.lose(1), x.lay(1, 0, 0, 0), x.copy(1, 0, 0, 0, 0), x.copy(0, 0, 1, 0, 0), x.write(1, 1), x.read(1)};
      for (int k = 0; k < answers.length; k++) due("answer " + k, answers[k], -11);
      x.lay(0, 0, 5, 0);
      due("get", x.get(1, 0, 0), LEAST);
      due("count(8)", x.count(8), 1);
    });
    says("2 INDEX: there is no such item", () -> {
      StampsCancel x = new StampsCancel();
      x.sheet(0, 2, 3);
      for (int i : new int[] {-1, 3, 59, 60, LEAST, MOST}) {
        due("lay at " + i, x.lay(0, 2, i, 1), -12);
        x.lose(1);
        due("get at " + i, x.get(0, 2, i), LEAST);
        due("count(8)", x.count(8), 2);
      }
      due("the last one", x.lay(0, 2, 2, 1), 1);
      due("the first one", x.lay(0, 2, 0, 1), 1);
    });
    says("3 CAST: it has another FORM", () -> {
      StampsCancel x = new StampsCancel();
      for (int form = 0; form < 3; form++) {
        x.sheet(0, form, 1);
        for (int as = 0; as < 3; as++) {
          due("lay", x.lay(0, as, 0, 1), as == form ? 1 : -13);
          x.lose(1);
          due("get", x.get(0, as, 0), as == form ? 1 : LEAST);
          due("count(8)", x.count(8), as == form ? 1 : 3);
        }
      }
    });
    says("4 STORE: unlike FORMS", () -> {
      StampsCancel x = new StampsCancel();
      for (int form = 0; form < 3; form++) {
        for (int other = 0; other < 3; other++) {
          lay(x, 0, form, 5);
          lay(x, 1, other, 6);
          due("copy", x.copy(0, 0, 1, 0, 1), form == other ? 1 : -14);
          due("item", x.get(1, other, 0), form == other ? 5 : 6);
        }
      }
      due("count(8)", x.count(8), 4);
    });
    says("5 SIZE: below 0.", () -> {
      StampsCancel x = new StampsCancel();
      due("-1", x.sheet(0, 0, -1), -15);
      due("the least int", x.sheet(0, 2, LEAST), -15);
      due("count(8)", x.count(8), 5);
      due("still lost", x.lose(0), NULL);
      due("0 is not below", x.sheet(0, 0, 0), 0);
    });
  }

  private static void sheet() {
    in("Promise 27");
    says("A SHEET is a new row of a FORM with n items: n.", () -> {
      StampsCancel x = new StampsCancel();
      due("60", x.sheet(0, 0, 60), 60);
      x.lay(0, 0, 59, 7);
      due("new", x.sheet(0, 0, 60), 60);
      due("nothing of what was", x.get(0, 0, 59), 0);
      due("another form", x.sheet(0, 2, 1), 1);
      due("of the old form", x.lay(0, 0, 0, 1), CAST);
      due("of the new form", x.lay(0, 2, 0, 1), 1);
      due("beyond the new end", x.lay(0, 2, 1, 1), INDEX);
      due("0", x.sheet(0, 1, 0), 0);
      due("of no items, not lost", x.lose(0), 0);
    });
    says("BAD: SHEET, FORM, above 60; SIZE.", () -> {
      StampsCancel x = new StampsCancel();
      lay(x, 0, 1, 3, 4);
      due("sheet below", x.sheet(-1, 0, 0), BAD);
      due("sheet above", x.sheet(4, 0, 0), BAD);
      due("form below", x.sheet(0, -1, 0), BAD);
      due("form above", x.sheet(0, 3, 0), BAD);
      due("61", x.sheet(0, 0, 61), BAD);
      due("the greatest int", x.sheet(0, 0, MOST), BAD);
      due("BAD ahead of SIZE, sheet", x.sheet(4, 0, -1), BAD);
      due("BAD ahead of SIZE, form", x.sheet(0, 3, -1), BAD);
      due("no finding", x.count(8), 0);
      due("SIZE", x.sheet(0, 0, -1), SIZE);
      due("SIZE", x.count(8), 5);
      dueItems(x, 0, 1, 3, 4);
    });
  }

  private static void lose() {
    in("Promise 28");
    says("It is LOST: how many items it had. BAD; NULL.", () -> {
      StampsCancel x = new StampsCancel();
      x.sheet(0, 0, 60);
      x.sheet(3, 2, 0);
      due("60", x.lose(0), 60);
      due("lost already", x.lose(0), NULL);
      due("count(8)", x.count(8), 1);
      due("0", x.lose(3), 0);
      due("lost", x.lay(3, 2, 0, 0), NULL);
      due("below", x.lose(-1), BAD);
      due("above", x.lose(4), BAD);
      lay(x, 1, 1, 9);
      x.lose(1);
      x.sheet(1, 1, 1);
      due("nothing of what was", x.get(1, 1, 0), 0);
    });
  }

  private static void lay() {
    in("Promise 29");
    says("Item i, treated as of a FORM, becomes v (the lowest bits that it has, with its sign): 1. BAD; NULL; CAST; INDEX.", () -> {
      StampsCancel x = new StampsCancel();
      int[] laid = {0, 1, -1, 127, 128, 255, 256, -128, -129, 32767, 32768, 65535, 65536, -32768, -32769, MOST, LEAST};
      int[] asBytes = {0, 1, -1, 127, -128, -1, 0, -128, 127, -1, 0, -1, 0, 0, -1, -1, 0};
      int[] asShorts = {0, 1, -1, 127, 128, 255, 256, -128, -129, 32767, -32768, -1, 0, -32768, 32767, -1, 0};
      for (int form = 0; form < 3; form++) {
        int[] want = form == 0 ? asBytes : form == 1 ? asShorts : laid;
        x.sheet(form, form, laid.length);
        for (int i = 0; i < laid.length; i++) due("lay", x.lay(form, form, i, laid[i]), 1);
        dueItems(x, form, form, want);
      }
      due("sheet below", x.lay(-1, 0, 0, 0), BAD);
      due("sheet above", x.lay(4, 0, 0, 0), BAD);
      due("form below", x.lay(0, -1, 0, 0), BAD);
      due("form above", x.lay(0, 3, 0, 0), BAD);
      due("BAD ahead of NULL", x.lay(3, 3, 0, 0), BAD);
      due("NULL ahead of INDEX", x.lay(3, 0, -1, 0), NULL);
      due("CAST ahead of INDEX", x.lay(0, 1, -1, 0), CAST);
      due("INDEX below", x.lay(0, 0, -1, 0), INDEX);
      due("INDEX above", x.lay(0, 0, laid.length, 0), INDEX);
      dueItems(x, 0, 0, asBytes);
    });
  }

  private static void get() {
    in("Promise 30");
    says("Item i of it.", () -> {
      StampsCancel x = new StampsCancel();
      lay(x, 2, 1, 10, -20, 30);
      due("first", x.get(2, 1, 0), 10);
      due("second", x.get(2, 1, 1), -20);
      due("last", x.get(2, 1, 2), 30);
      lay(x, 0, 2, LEAST);
      due("an item that is the least int", x.get(0, 2, 0), LEAST);
      due("no finding", x.count(8), 0);
    });
    says("BAD: the least int; so are NULL, CAST, INDEX (count() 8 tells).", () -> {
      StampsCancel x = new StampsCancel();
      lay(x, 0, 0, 1, 2);
      due("sheet below", x.get(-1, 0, 0), LEAST);
      due("sheet above", x.get(4, 0, 0), LEAST);
      due("form below", x.get(0, -1, 0), LEAST);
      due("form above", x.get(0, 3, 0), LEAST);
      due("BAD ahead of NULL", x.get(1, 3, 0), LEAST);
      due("BAD is no finding", x.count(8), 0);
      due("INDEX above", x.get(0, 0, 2), LEAST);
      due("it tells", x.count(8), 2);
      due("NULL ahead of INDEX", x.get(1, 1, -1), LEAST);
      due("it tells", x.count(8), 1);
      due("INDEX below", x.get(0, 0, -1), LEAST);
      due("it tells", x.count(8), 2);
      due("CAST ahead of INDEX", x.get(0, 1, 2), LEAST);
      due("it tells", x.count(8), 3);
      due("BAD", x.get(4, 0, 0), LEAST);
      due("it tells what was", x.count(8), 3);
    });
  }

  private static void copy() {
    in("Promise 31");
    says("n items of SHEET s, from i on, come to SHEET t (perhaps s, as they were), from j on: 1.", () -> {
      for (int form = 0; form < 3; form++) {
        StampsCancel x = new StampsCancel();
        lay(x, 0, form, 1, 2, 3, 4, 5);
        lay(x, 3, form, 9, 8, 7);
        due("two", x.copy(0, 3, 3, 1, 2), 1);
        dueItems(x, 3, form, 9, 4, 5);
        dueItems(x, 0, form, 1, 2, 3, 4, 5);
        due("all", x.copy(3, 0, 0, 0, 3), 1);
        dueItems(x, 0, form, 9, 4, 5, 4, 5);
        lay(x, 0, form, 1, 2, 3, 4, 5);
        due("onto itself, behind", x.copy(0, 0, 0, 1, 4), 1);
        dueItems(x, 0, form, 1, 1, 2, 3, 4);
        due("onto itself, ahead", x.copy(0, 1, 0, 0, 4), 1);
        dueItems(x, 0, form, 1, 2, 3, 4, 4);
        due("onto itself, the same", x.copy(0, 0, 0, 0, 5), 1);
        dueItems(x, 0, form, 1, 2, 3, 4, 4);
        due("none", x.copy(0, 2, 3, 2, 0), 1);
        dueItems(x, 3, form, 9, 4, 5);
      }
      StampsCancel y = new StampsCancel();
      y.sheet(1, 2, 60);
      y.sheet(2, 2, 60);
      y.lay(1, 2, 59, LEAST);
      due("sixty", y.copy(1, 0, 2, 0, 60), 1);
      due("the last", y.get(2, 2, 59), LEAST);
    });
    says("BAD: the SHEETS; NULL: s, t; STORE; INDEX: below 0, not so many (with n 0, too, if i or j is above how many there are).", () -> {
      StampsCancel x = new StampsCancel();
      lay(x, 0, 0, 1, 2, 3);
      lay(x, 1, 0, 4, 5);
      lay(x, 2, 1, 6);
      due("s below", x.copy(-1, 0, 1, 0, 0), BAD);
      due("s above", x.copy(4, 0, 1, 0, 0), BAD);
      due("t below", x.copy(0, 0, -1, 0, 0), BAD);
      due("t above", x.copy(0, 0, 4, 0, 0), BAD);
      due("BAD ahead of NULL", x.copy(3, 0, 4, 0, 0), BAD);
      due("no finding", x.count(8), 0);
      due("s is lost", x.copy(3, -1, 2, 0, 0), NULL);
      due("t is lost", x.copy(2, -1, 3, 0, 0), NULL);
      due("both are lost", x.copy(3, 0, 3, 0, 0), NULL);
      due("STORE ahead of INDEX", x.copy(0, -1, 2, 9, -9), STORE);
      due("STORE, though none comes", x.copy(0, 0, 2, 0, 0), STORE);
      due("i below 0", x.copy(0, -1, 1, 0, 1), INDEX);
      due("j below 0", x.copy(0, 0, 1, -1, 1), INDEX);
      due("n below 0", x.copy(0, 1, 1, 1, -1), INDEX);
      due("i below 0, none", x.copy(0, -1, 1, 0, 0), INDEX);
      due("j below 0, none", x.copy(0, 0, 1, -1, 0), INDEX);
      due("not so many in s", x.copy(1, 1, 0, 0, 2), INDEX);
      due("not so many in t", x.copy(0, 0, 1, 1, 2), INDEX);
      due("so many, beyond", x.copy(0, 0, 1, 0, 3), INDEX);
      due("i at the end, none", x.copy(0, 3, 1, 0, 0), 1);
      due("j at the end, none", x.copy(0, 0, 1, 2, 0), 1);
      due("i above, none", x.copy(0, 4, 1, 0, 0), INDEX);
      due("j above, none", x.copy(0, 0, 1, 3, 0), INDEX);
      due("a sum that wraps, i", x.copy(0, MOST, 1, 0, MOST), INDEX);
      due("a sum that wraps, j", x.copy(0, 0, 1, MOST, MOST), INDEX);
      due("a sum that wraps to 0", x.copy(0, LEAST, 1, LEAST, LEAST), INDEX);
      due("the greatest n", x.copy(0, 1, 1, 1, MOST), INDEX);
      due("count(8)", x.count(8), 2);
      dueItems(x, 0, 0, 1, 2, 3);
      dueItems(x, 1, 0, 4, 5);
      dueItems(x, 2, 1, 6);
    });
  }

  private static void write() {
    in("Promise 32");
    says("Stamps of the PAPER of a WAY, as bytes, come to a SHEET (of each the lowest bits that an item has, with its sign) from item 0 on, as many as there are items and stamps: how many. BAD; NULL.", () -> {
      StampsCancel x = of("00;00u;00;00;00;00;00;00;00", "abI", "aA", "iiiiiiiiiiiiiiiiiiiiiiiiiiiiiA");
      for (int form = 0; form < 3; form++) {
        lay(x, form, form, 1, 2, 3);
        due("two stamps", x.write(1, form), 2);
        dueItems(x, form, form, 'a', 'I', 3);
        due("no stamps", x.write(2, form), 0);
        dueItems(x, form, form, 'a', 'I', 3);
        due("three items", x.write(3, form), 3);
        dueItems(x, form, form, 'i', 'i', 'i');
        x.sheet(form, form, 0);
        due("no items", x.write(3, form), 0);
        x.sheet(form, form, 30);
        due("thirty of both", x.write(3, form), 30);
        due("the last", x.get(form, form, 29), 'A');
      }
      due("way 0", x.write(0, 0), BAD);
      due("way 4", x.write(4, 0), BAD);
      due("sheet below", x.write(1, -1), BAD);
      due("sheet above", x.write(1, 4), BAD);
      due("BAD ahead of NULL", x.write(0, 3), BAD);
      due("no finding", x.count(8), 2);
      due("NULL", x.write(1, 3), NULL);
      due("NULL, though no stamps come", x.write(2, 3), NULL);
      due("count(8)", x.count(8), 1);
    });
  }

  private static void count() {
    in("Promise 33");
    says("0 GATES, 1 those that are WATCHED, 2 to 5 bytes of texts 0 to 3, 6 LISTED, 7 of these GOOD, 8 the number of the latest FINDING (0 before any). BAD.", () -> {
      StampsCancel x = of("01;12u;23;33u;r3", "", "abcd", "?");
      due("no finding yet", x.count(8), 0);
      x.list(1, 1);
      x.list(1, 0);
      x.list(1, 1);
      x.sheet(0, 0, -1);
      x.lose(2);
      int[] want = {4, 2, 16, 0, 4, 1, 3, 2, 1};
      for (int what = 0; what <= 8; what++) due("count(" + what + ")", x.count(what), want[what]);
      x.shut(511);
      due("shut ones are gates", x.count(0), 4);
      due("and watched", x.count(1), 2);
      due("below", x.count(-1), BAD);
      due("above", x.count(9), BAD);
      tell(x, 0, "00;00;00;00;00;00;00;00;00");
      due("nine", x.count(0), 9);
      due("all nine watched", x.count(1), 9);
      type(x, 0, ";00");
      due("none with a fault", x.count(0), 0);
      due("bytes with a fault", x.count(2), 29);
    });
  }

  /** What h becomes by one more. */
  private static long and(long h, long more) {
    return 31 * h + more;
  }

  private static void digest() {
    says("h is 17; h becomes 31 h and each of (of each thing all that is told of it, then of the next one): count() 0 to 7; of texts fault(); room()", () -> {
      StampsCancel x = new StampsCancel();
      long h = 17;
      for (int k = 0; k <= 7; k++) h = and(h, 0);
      for (int k = 0; k <= 3; k++) h = and(h, NONE);
      h = and(h, 11);
      due("digest() of a new one", x.digest(), ways(x, h));
      StampsCancel y = of("r3;", "?", "", "ab");
      y.list(1, 1);
      y.list(1, 0);
      h = 17;
      for (int told : new int[] {0, 0, 3, 1, 0, 2, 2, 1, 3, 0, NONE, 0, 11}) h = and(h, told);
      due("digest() with faults", y.digest(), ways(y, h));
      y.lose(0);
      due("findings are not told", y.digest(), ways(y, h));
    });
    says("of GATES gate() 0 to 3, without() 0, 1", () -> {
      StampsCancel x = of("07;71u", "", "", "");
      x.shut(2);
      long h = 17;
      for (int told : new int[] {2, 1, 6, 0, 0, 0, 0, 0, NONE, NONE, NONE, NONE, 11}) h = and(h, told);
      for (int told : new int[] {0, 7, 1, 0, 1, 0, 7, 1, 0, 1, 0, 0}) h = and(h, told);
      due("digest()", x.digest(), ways(x, h));
      StampsCancel y = of("01;12;20", "", "", "");
      h = 17;
      for (int told : new int[] {3, 3, 8, 0, 0, 0, 0, 0, NONE, NONE, NONE, NONE, 11}) h = and(h, told);
      for (int told : new int[] {0, 1, 1, 0, 1, 1, 1, 2, 1, 0, 1, 1, 2, 0, 1, 0, 1, 1}) h = and(h, told);
      due("digest() of a round of gates", y.digest(), ways(y, h));
    });
    says("of WAYS paper() NONE and all stamps, judged() 0 to 4 from TOWN 0, clean, found() 0, 1, shortest() from 0, clean, to the TOWN where JUDGED is, with its PAPER, 0, 1, many() from 0 to that TOWN, 6", () -> {
      StampsCancel x = of("01;12u;r1", "ab", "aa", "aA");
      long h = 17;
      for (int told : new int[] {2, 1, 9, 2, 2, 2, 0, 0, NONE, NONE, NONE, NONE, 1}) h = and(h, told);
      for (int told : new int[] {0, 1, 1, 0, 2, 0, 1, 2, 0, 0, 2, 0}) h = and(h, told);
      for (int told : new int[] {1, 'a', NONE, 2, 1, 1, 0, 1, 2 + 4, 2, 1, 4}) h = and(h, told);
      for (int told : new int[] {2, 'a', 'a', 1, 1, 1, 1, 0, 0, 0, NONE, 0, 0}) h = and(h, told);
      for (int told : new int[] {0, NONE, 0, 1, 0, 1, 255, 255, 0, 1, 4}) h = and(h, told);
      due("digest()", x.digest(), towns(x, and(h, 0)));
    });
    says("same(1, 2); of TOWNS clean(), far() from 0, errands() to it alone from 0, 0 and 1; slips(7), fewest()", () -> {
      StampsCancel x = of("01;12u", "bab", "a", "aaaaa");
      x.list(1, 1);
      x.list(3, 0);
      long h = texts(x);
      for (int way = 1; way <= 3; way++) h = way(x, h, way);
      h = and(h, 1);
      for (int told : new int[] {7, 0, 0, 0, 7, 1, 1, 2, 7, 2, 1, 4}) h = and(h, told);
      for (int town = 3; town < 8; town++) for (int told : new int[] {1 << town, NONE, NONE, NONE}) h = and(h, told);
      due("digest()", x.digest(), and(and(h, 0), 2));
      StampsCancel y = of("00;00", "aaaa", "aaab", "baaa");
      y.list(1, 1);
      y.list(2, 0);
      y.list(3, 0);
      y.list(3, 0);
      h = texts(y);
      for (int way = 1; way <= 3; way++) h = way(y, h, way);
      h = and(h, 0);
      for (int told : new int[] {1, 0, 0, 0}) h = and(h, told);
      for (int town = 1; town < 8; town++) for (int told : new int[] {1 << town, NONE, NONE, NONE}) h = and(h, told);
      due("digest() with one of three that slips", y.digest(), and(and(h, 1), 1 + 8));
    });
    says("; as longs that wrap.", () -> {
      StampsCancel x = of("10;01u;01u;01u;01u;01u;01u;01u;01u", "aaaaaaaaaaa", "BABABABABABABABABABABA");
      due("ways", x.shortest(0, 0, 1, 2, 1), 1L << 30);
      due("digest()", x.digest(), ways(x, texts(x)));
    });
  }

  /** Up to the GATES, by the answers of the other calls. */
  private static long texts(StampsCancel x) {
    long h = 17;
    for (int k = 0; k <= 7; k++) h = and(h, x.count(k));
    for (int k = 0; k <= 3; k++) h = and(h, x.fault(k));
    h = and(h, x.room());
    for (int g = 0; g < x.count(0); g++) {
      for (int k = 0; k <= 3; k++) h = and(h, x.gate(g, k));
      h = and(and(h, x.without(g, 0)), x.without(g, 1));
    }
    return h;
  }

  private static long way(StampsCancel x, long begun, int way) {
    long h = begun;
    for (int i = NONE; i < x.paper(way, NONE); i++) h = and(h, x.paper(way, i));
    for (int what = 0; what <= 4; what++) h = and(h, x.judged(way, 0, 0, what));
    h = and(and(h, x.found(way, 0)), x.found(way, 1));
    int town = x.judged(way, 0, 0, 1);
    h = and(and(h, x.shortest(0, 0, town, way, 0)), x.shortest(0, 0, town, way, 1));
    return and(h, x.many(0, way, town, 6));
  }

  /** From the WAYS on, by the answers of the other calls. */
  private static long ways(StampsCancel x, long begun) {
    long h = begun;
    for (int way = 1; way <= 3; way++) h = way(x, h, way);
    return towns(x, and(h, x.same(1, 2)));
  }

  private static long towns(StampsCancel x, long begun) {
    long h = begun;
    for (int town = 0; town < 8; town++) {
      h = and(and(h, x.clean(town)), x.far(0, town));
      h = and(and(h, x.errands(0, 1 << town, 0)), x.errands(0, 1 << town, 1));
    }
    return and(and(h, x.slips(7)), x.fewest());
  }
}
