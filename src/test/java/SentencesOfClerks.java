/** Papers that are listed, and clerks (promises 17 to 23). */
final class SentencesOfClerks extends Sentence {
  private static final String SIXTY = "aaaaaaaaaaaaaaaaaaaaaaaaaaaaaaaaaaaaaaaaaaaaaaaaaaaaaaaaaaaa";

  static void all() {
    in("Terms");
    terms();
    list();
    read();
    unlist();
    listed();
    lets();
    slips();
    fewest();
  }

  private static void terms() {
    says("LISTED: PAPERS of WAYS, as they are when they are LISTED", () -> {
      StampsCancel x = of("01;12", "ab");
      x.list(1, 1);
      tell(x, 1, "b");
      dueListed(x, 0, "ab");
      x.list(1, 0);
      tell(x, 0, "");
      dueListed(x, 0, "ab");
      dueListed(x, 1, "b");
      tell(x, 0, "01u;12u");
      dueListed(x, 0, "ab");
      x.shut(511);
      dueListed(x, 0, "ab");
    });
    says("12 at most", () -> {
      StampsCancel x = of("00", "a");
      for (int k = 1; k <= 12; k++) due("list", x.list(1, k & 1), k);
      due("a thirteenth", x.list(1, 1), FULL);
      due("twelve", x.count(6), 12);
      dueListed(x, 11, "a");
      due("no thirteenth", x.listed(12, NONE), BAD);
    });
    says("GOOD (1) or not (0).", () -> {
      StampsCancel x = of("00", "a", "A");
      x.list(1, 1);
      x.list(2, 0);
      due("good ones", x.count(7), 1);
      due("like the good one", x.lets(1, 1), 1);
      due("like the other", x.lets(2, 1), 0);
    });
    says("A CLERK who looks at some PLACES (bits; 0 to 10) lets by each that has, at all of these, the same stamps (or no stamp) as a GOOD one that is LISTED", () -> {
      StampsCancel x = of("00;00", "aaaaaaaaaaaaaa", "", "aaaaaaaaaaa");
      x.list(1, 1);
      due("alike at all places, unlike beyond", x.lets(3, 2047), 1);
      for (int place = 0; place <= 10; place++) {
        tell(x, 2, SIXTY.substring(0, place) + "b" + SIXTY.substring(place + 1, 14));
        due("unlike at " + place, x.lets(2, 1 << place), 0);
        due("not seen by the others", x.lets(2, 2047 - (1 << place)), 1);
        due("by all", x.lets(2, 2047), 0);
        tell(x, 2, SIXTY.substring(0, place));
        due("no stamp at " + place, x.lets(2, 1 << place), 0);
        due("stamps ahead of " + place, x.lets(2, (1 << place) - 1), 1);
      }
      StampsCancel y = of("00;00", "a", "b", "ab");
      y.list(1, 1);
      due("no stamp as no stamp", y.lets(2, 2046), 1);
      due("a stamp for no stamp", y.lets(3, 2), 0);
      tell(y, 2, "bb");
      y.list(2, 1);
      due("as one of them, not as some of each", y.lets(3, 3), 0);
      due("as the second", y.lets(3, 2), 1);
    });
    says("(without such a one nobody;", () -> {
      StampsCancel x = of("00", "a");
      due("none is listed", x.lets(1, 0), 0);
      x.list(1, 0);
      due("one that is not good", x.lets(1, 0), 0);
      due("nor with places", x.lets(1, 1), 0);
      due("nobody slips", x.slips(0), 0);
      x.list(1, 1);
      due("a good one", x.lets(1, 0), 1);
      x.unlist();
      due("the good one is off again", x.lets(1, 0), 0);
      due("nobody slips", x.slips(0), 0);
      for (int k = 1; k < 12; k++) x.list(1, 0);
      due("of twelve that are not good", x.lets(1, 0), 0);
    });
    says("with no PLACES all, if there is one).", () -> {
      StampsCancel x = of("00", "a", "AA", "");
      x.list(1, 1);
      for (int way = 1; way <= 3; way++) due("lets(" + way + ", 0)", x.lets(way, 0), 1);
      x.list(2, 0);
      x.list(3, 0);
      due("all slip", x.slips(0), 2);
    });
    says("SLIPS: how many that are not GOOD are let by.", () -> {
      StampsCancel x = of("00;00", "aa", "ab", "a");
      x.list(2, 0);
      x.list(3, 0);
      x.list(2, 0);
      due("no good one", x.slips(0), 0);
      x.list(1, 1);
      due("three, at place 0", x.slips(1), 3);
      due("none, at place 1", x.slips(2), 0);
      due("three, at place 2", x.slips(4), 3);
      x.list(3, 1);
      due("as another good one", x.slips(2), 1);
      due("at all places", x.slips(2047), 1);
      for (int k = 0; k < 7; k++) x.list(3, 0);
      due("eight of twelve", x.slips(2047), 8);
    });
    says("FEWEST: the PLACES with the fewest by which nobody SLIPS, of like ones the least as bits; NONE.", () -> {
      StampsCancel x = of("00;00", "aaa", "bba", "aab");
      x.list(1, 1);
      due("nobody to slip", x.fewest(), 0);
      x.list(2, 0);
      due("the least of two", x.fewest(), 1);
      x.list(3, 0);
      due("two places, the least", x.fewest(), 1 + 4);
      tell(x, 2, "abb");
      x.list(2, 0);
      due("still", x.fewest(), 1 + 4);
      x.list(1, 0);
      due("one like a good one", x.fewest(), NONE);
      StampsCancel y = of("00;00", "aaa", "bab", "abb");
      y.list(1, 1);
      y.list(2, 0);
      y.list(3, 0);
      due("one greater place for two lesser ones", y.fewest(), 4);
      StampsCancel z = of("00;00", "aab", "aaa", "bab");
      z.list(1, 0);
      z.list(2, 1);
      due("the first one listed is to be seen", z.fewest(), 4);
      z.list(3, 0);
      due("with a last one", z.fewest(), 4);
      z.list(3, 1);
      due("that one is good as well", z.fewest(), NONE);
    });
  }

  private static void list() {
    in("Promise 17");
    says("The PAPER of a WAY is LISTED: how many are. BAD; FULL.", () -> {
      StampsCancel x = of("00;00u", "aba", "", "A");
      due("first", x.list(1, 1), 1);
      due("second", x.list(2, 0), 2);
      dueListed(x, 0, "aa");
      dueListed(x, 1, "");
      due("way 0", x.list(0, 0), BAD);
      due("way 4", x.list(4, 0), BAD);
      due("good below", x.list(1, -1), BAD);
      due("good above", x.list(1, 2), BAD);
      due("two as they were", x.count(6), 2);
      for (int k = 3; k <= 12; k++) due("list(3, 1)", x.list(3, 1), k);
      due("full", x.list(3, 1), FULL);
      due("BAD ahead of FULL", x.list(0, 1), BAD);
      due("BAD ahead of FULL", x.list(3, 2), BAD);
      due("good ones", x.count(7), 11);
    });
  }

  private static void read() {
    in("Promise 18");
    says("PAPERS of rows of letters are LISTED by a SHEET: its items are bytes of letters", () -> {
      for (int form = 0; form < 3; form++) {
        StampsCancel x = of("00;00u;11");
        lay(x, 0, form, bytes("acCbA"));
        due("read", x.read(0), 1);
        dueListed(x, 0, "");
        lay(x, 1, form, bytes("CbaA" + "C"));
        due("read", x.read(1), 1);
        dueListed(x, 1, "CC");
        due("the sheet is as it was", x.get(1, form, 4), 'C');
      }
      StampsCancel y = of("00");
      lay(y, 3, 0, bytes(SIXTY));
      due("sixty items", y.read(3), 1);
      due("sixty stamps", y.listed(0, NONE), 60);
      due("the last place", y.listed(0, 10), 'a');
    });
    says("one that is not a letter of a GATE ends a PAPER", () -> {
      StampsCancel x = of("00;00");
      int[] ends = {0, -1, '?', 'c', 'C', '@', '`', 255, 97 + 256, 97 + 65536, 97 - 256, LEAST, MOST};
      for (int end : ends) {
        lay(x, 0, 2, 'a', end, 'b');
        due("read with " + end, x.read(0), 2);
        dueListed(x, 0, "a");
        dueListed(x, 1, "b");
        x.unlist();
        x.unlist();
      }
      lay(x, 0, 0, 'a', 97 - 256, 'b');
      due("the lowest bits of a byte are a letter", x.read(0), 1);
      dueListed(x, 0, "aab");
      x.wipe(0);
      due("none is a letter of no gate", x.read(0), 4);
    });
    says("and so does the end of the SHEET, whatever is ahead of it", () -> {
      StampsCancel x = of("00;00");
      lay(x, 0, 1, bytes("ab"));
      due("letters", x.read(0), 1);
      lay(x, 0, 1, bytes("ab?"));
      due("an end", x.read(0), 2);
      dueListed(x, 1, "ab");
      dueListed(x, 2, "");
      lay(x, 0, 1, bytes("?"));
      due("an end alone", x.read(0), 2);
      dueListed(x, 3, "");
      dueListed(x, 4, "");
    });
    says("(of two ends side by side, of no items: a clean one)", () -> {
      StampsCancel x = of("00;00");
      lay(x, 0, 0, bytes("a??b"));
      due("side by side", x.read(0), 3);
      dueListed(x, 0, "a");
      dueListed(x, 1, "");
      dueListed(x, 2, "b");
      for (int form = 0; form < 3; form++) {
        x.sheet(1, form, 0);
        due("of no items", x.read(1), 1);
        dueListed(x, 3 + form, "");
      }
    });
    says("good ones, as long as there is room: how many. BAD; NULL.", () -> {
      StampsCancel x = of("00", "a", "A");
      for (int k = 0; k < 9; k++) x.list(1, 0);
      lay(x, 0, 0, bytes("a?aa?"));
      due("three", x.read(0), 3);
      dueListed(x, 8, "a");
      dueListed(x, 9, "a");
      dueListed(x, 10, "aa");
      dueListed(x, 11, "");
      due("good ones", x.count(7), 3);
      due("twelve", x.count(6), 12);
      due("none more", x.read(0), 0);
      x.unlist();
      x.unlist();
      due("two of three", x.read(0), 2);
      dueListed(x, 10, "a");
      dueListed(x, 11, "aa");
      due("below", x.read(-1), BAD);
      due("above", x.read(4), BAD);
      due("no finding", x.count(8), 0);
      due("lost", x.read(3), NULL);
      due("NULL, though there is no room", x.count(8), 1);
      StampsCancel y = new StampsCancel();
      y.sheet(0, 0, 60);
      due("sixty ends", y.read(0), 12);
      due("twelve clean ones", y.count(7), 12);
    });
  }

  private static void unlist() {
    in("Promise 19");
    says("The last one LISTED is taken off: how many are left. NOT: none.", () -> {
      StampsCancel x = of("00", "a", "A");
      due("none", x.unlist(), NOT);
      x.list(1, 0);
      x.list(2, 1);
      due("one is left", x.unlist(), 1);
      dueListed(x, 0, "a");
      due("the good one is off", x.count(7), 0);
      due("no second", x.listed(1, NONE), BAD);
      due("none is left", x.unlist(), 0);
      due("none", x.unlist(), NOT);
      due("NOT is no finding", x.count(8), 0);
      for (int k = 0; k < 12; k++) x.list(1, 1);
      due("of twelve", x.unlist(), 11);
      due("there is room again", x.list(2, 0), 12);
      dueListed(x, 11, "A");
    });
  }

  private static void listed() {
    in("Promise 20");
    says("Of one LISTED: how many stamps (what = NONE), the stamp at a PLACE as a byte (0 to 10; NONE: no stamp). BAD.", () -> {
      StampsCancel x = of("00;00", "aaaaaaaaaabb", "B", "");
      for (int way = 1; way <= 3; way++) x.list(way, 0);
      due("twelve stamps", x.listed(0, NONE), 12);
      due("place 9", x.listed(0, 9), 'a');
      due("place 10", x.listed(0, 10), 'b');
      due("place 11", x.listed(0, 11), BAD);
      due("one stamp", x.listed(1, NONE), 1);
      due("a great one", x.listed(1, 0), 'B');
      due("no stamp", x.listed(1, 1), NONE);
      due("no stamps", x.listed(2, NONE), 0);
      due("no stamp at 10", x.listed(2, 10), NONE);
      due("no such one", x.listed(3, NONE), BAD);
      due("k below", x.listed(-1, NONE), BAD);
      due("what below", x.listed(0, -2), BAD);
      due("of none", new StampsCancel().listed(0, NONE), BAD);
    });
  }

  private static void lets() {
    in("Promise 21");
    says("Whether a CLERK who looks at PLACES (bits, 0 to 2047) lets by the PAPER of a WAY: 1, 0. BAD.", () -> {
      StampsCancel x = of("00;00", "ab", "aB", "");
      x.list(1, 1);
      due("at place 0", x.lets(2, 1), 1);
      due("at place 1", x.lets(2, 2), 0);
      due("at none", x.lets(3, 0), 1);
      due("at all", x.lets(1, 2047), 1);
      due("at all, another", x.lets(3, 2047), 0);
      due("places below", x.lets(1, -1), BAD);
      due("places above", x.lets(1, 2048), BAD);
      due("way 0", x.lets(0, 0), BAD);
      due("way 4", x.lets(4, 0), BAD);
    });
  }

  private static void slips() {
    in("Promise 22");
    says("SLIPS. BAD.", () -> {
      StampsCancel x = of("00;00", "ab", "aB", "");
      x.list(1, 1);
      x.list(2, 0);
      x.list(3, 0);
      due("by none", x.slips(0), 2);
      due("by place 0", x.slips(1), 1);
      due("by all", x.slips(2047), 0);
      due("by place 10", x.slips(1024), 2);
      due("below", x.slips(-1), BAD);
      due("above", x.slips(2048), BAD);
    });
  }

  private static void fewest() {
    in("Promise 23");
    says("FEWEST, as bits; NONE.", () -> {
      due("none is listed", new StampsCancel().fewest(), 0);
      StampsCancel x = of("00;00", "", "");
      x.list(1, 0);
      due("no good one", x.fewest(), 0);
      tell(x, 1, SIXTY.substring(0, 10));
      tell(x, 2, SIXTY.substring(0, 11));
      x.unlist();
      x.list(1, 1);
      x.list(2, 0);
      due("place 10", x.fewest(), 1024);
      x.unlist();
      tell(x, 1, SIXTY.substring(0, 11));
      tell(x, 2, SIXTY.substring(0, 12));
      x.list(1, 1);
      x.list(2, 0);
      due("unlike beyond the places alone", x.fewest(), NONE);
      StampsCancel y = of("00;00", SIXTY.substring(0, 11));
      y.list(1, 1);
      for (int place = 0; place <= 10; place++) {
        tell(y, 2, SIXTY.substring(0, place) + "b" + SIXTY.substring(place + 1, 11));
        y.list(2, 0);
      }
      due("all places", y.fewest(), 2047);
    });
  }
}
