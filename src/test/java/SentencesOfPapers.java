/** Ways that are judged, shortest ways, errands, papers that were found, changes (promises 8 to 16, 24 to 26). */
final class SentencesOfPapers extends Sentence {
  static void all() {
    in("Terms");
    judgedTerms();
    shortestTerms();
    errandsTerms();
    foundTerms();
    farTerms();
    paper();
    judged();
    same();
    shortest();
    letter();
    errands();
    clean();
    found();
    many();
    far();
    without();
    with();
  }

  private static void judgedTerms() {
    says("JUDGED: a WAY from a TOWN on, beginning with the PAPER of another WAY (or clean)", () -> {
      StampsCancel x = of("01;12;20", "BA", "ab", "");
      dueJudged(x, 1, 2, 0, NONE, 0, 2, 2, 0);
      dueJudged(x, 1, 2, 2, NONE, 0, 2, 0, 2);
      dueJudged(x, 1, 2, 3, NONE, 0, 2, 2, 0);
      dueJudged(x, 1, 2, 1, NONE, 0, 4, 4, 0);
      dueJudged(x, 3, 7, 2, NONE, 7, 2, 2, 0);
      dueJudged(x, 3, 5, 0, NONE, 5, 0, 0, 0);
    });
    says("the place of the first letter that does not lead from the TOWN where one is", () -> {
      StampsCancel x = of("01;12;22u", "aab", "aB", "abca");
      dueJudged(x, 1, 0, 0, 1, 1, 1, 1, 0);
      dueJudged(x, 2, 0, 0, 1, 1, 1, 1, 0);
      dueJudged(x, 3, 0, 0, 3, 2, 2, 2, 0);
      dueJudged(x, 3, 1, 0, 0, 1, 0, 0, 0);
      tell(x, 1, "cccccccccccccccccccccccccccccb");
      dueJudged(x, 1, 2, 0, 29, 2, 0, 0, 0);
    });
    says("is SHUT, or", () -> {
      StampsCancel x = of("01;12;23u", "abc", "aA", "aA");
      x.shut(4);
      dueJudged(x, 1, 0, 0, 2, 2, 2, 2, 0);
      x.shut(2);
      dueJudged(x, 1, 0, 0, 1, 1, 1, 1, 0);
      x.shut(1);
      dueJudged(x, 1, 0, 0, 0, 0, 0, 0, 0);
      tell(x, 2, "A");
      tell(x, 3, "a");
      due("a stamp of one that is shut is not struck out", x.judged(2, 1, 3, 0), 0);
      x.shut(510);
      due("the others are shut", x.judged(2, 1, 3, 4), 1);
    });
    says("or has no ROOM to stamp (the PAPER would be longer); NONE", () -> {
      StampsCancel x = of("00;00u;r2", "aab", "aaa", "aaAbab");
      dueJudged(x, 1, 0, 0, NONE, 0, 2, 2, 0);
      dueJudged(x, 2, 0, 0, 2, 0, 2, 2, 0);
      dueJudged(x, 3, 0, 0, NONE, 0, 2, 2, 1);
      StampsCancel y = of("00", "aaaaaaaaaaa", "aaaaaaaaaaaa", "AAAAAAAAAAAAAAAAAAAAAAA");
      dueJudged(y, 1, 0, 0, NONE, 0, 11, 11, 0);
      dueJudged(y, 2, 0, 0, 11, 0, 11, 11, 0);
      dueJudged(y, 3, 0, 1, 22, 0, 11, 11, 11);
      StampsCancel z = of("00;00;r1", "A", "aaa", "b");
      dueJudged(z, 1, 0, 2, NONE, 0, 3, 2, 1);
      dueJudged(z, 3, 0, 2, 0, 0, 3, 3, 0);
    });
    says("where one is then", () -> {
      StampsCancel x = of("01;12;21u", "abca", "", "abAB");
      due("ahead of the letter that may not be", x.judged(1, 0, 0, 1), 1);
      due("of no letter", x.judged(2, 6, 0, 1), 6);
      due("two gates on", x.judged(3, 0, 0, 1), 2);
      due("none may be", x.judged(1, 7, 0, 1), 7);
    });
    says("how long the PAPER was at its fullest (at first, too)", () -> {
      StampsCancel x = of("00;00", "abBA", "AA", "aaa");
      due("between", x.judged(1, 0, 0, 2), 2);
      due("at first", x.judged(2, 0, 3, 2), 3);
      due("later", x.judged(1, 0, 3, 2), 5);
      due("never", x.judged(2, 7, 0, 2), 0);
      due("at first, though none may be", x.judged(2, 7, 3, 2), 3);
    });
    says("how long it is", () -> {
      StampsCancel x = of("00;00", "abBA", "AA", "aaa");
      due("clean again", x.judged(1, 0, 0, 3), 0);
      due("struck out of what was", x.judged(2, 0, 3, 3), 1);
      due("stamped", x.judged(2, 0, 0, 3), 2);
      due("as it was", x.judged(1, 7, 3, 3), 3);
    });
    says("how many pairs were struck out (up to there).", () -> {
      StampsCancel x = of("00;01", "aAaAbb", "AAAA", "aaa");
      due("ahead of the letter that may not be", x.judged(1, 0, 0, 4), 2);
      due("with stamps that were there", x.judged(2, 0, 3, 4), 3);
      due("none", x.judged(2, 0, 0, 4), 0);
      due("those of the paper that one begins with are none", x.judged(3, 0, 1, 4), 0);
    });
  }

  private static void shortestTerms() {
    says("SAME: whether two WAYS have one PAPER (each by itself).", () -> {
      StampsCancel x = of("01;12u;34", "acC", "baB", "ac");
      due("one paper", x.same(1, 2), 1);
      due("begun alike", x.same(1, 3), 0);
      due("a longer one first", x.same(3, 1), 0);
      tell(x, 1, "ac");
      tell(x, 2, "CA");
      due("not one behind the other", x.same(1, 2), 0);
      tell(x, 2, "ca");
      due("another row", x.same(1, 2), 0);
      tell(x, 2, "aC");
      due("another letter at the end", x.same(1, 2), 0);
      tell(x, 1, "");
      tell(x, 2, "bB");
      due("clean ones", x.same(1, 2), 1);
    });
    says("SHORTEST from a TOWN with the PAPER of a WAY to a TOWN with the PAPER of a WAY: the fewest GATES", () -> {
      StampsCancel x = of("01;12;20u;23u", "ab", "a", "bA");
      dueShortest(x, 0, 0, 0, 0, 0, 1);
      dueShortest(x, 5, 1, 5, 1, 0, 1);
      dueShortest(x, 0, 0, 0, 1, 3, 1);
      dueShortest(x, 0, 0, 3, 1, 3, 1);
      dueShortest(x, 3, 1, 1, 2, 2, 1);
      dueShortest(x, 2, 1, 1, 2, 1, 1);
      dueShortest(x, 1, 2, 1, 1, NONE, 0);
      dueShortest(x, 1, 2, 3, 1, 2, 1);
      dueShortest(x, 0, 1, 3, 0, 5, 1);
      StampsCancel y = of("01;12", "A", "BA", "B");
      dueShortest(y, 0, 1, 1, 0, 1, 1);
      dueLeast(y, 0, 1, 1, 0, "a");
      dueShortest(y, 0, 2, 2, 0, 2, 1);
      dueLeast(y, 0, 2, 2, 0, "ab");
      dueShortest(y, 0, 2, 1, 3, 1, 1);
    });
    says("(SHUT ones left aside;", () -> {
      StampsCancel x = of("01;12u;13u;32u", "a");
      dueShortest(x, 0, 0, 2, 1, 2, 1);
      x.shut(2);
      dueShortest(x, 0, 0, 2, 1, 3, 1);
      x.shut(2 + 4);
      dueShortest(x, 0, 0, 2, 1, NONE, 0);
      x.shut(1);
      dueShortest(x, 0, 0, 1, 1, NONE, 0);
      dueShortest(x, 1, 1, 0, 0, NONE, 0);
      dueShortest(x, 1, 1, 2, 1, 1, 1);
    });
    says("with ROOM: NONE, if one of both PAPERS is longer)", () -> {
      StampsCancel x = of("00;r2", "aa", "aaa", "A");
      dueShortest(x, 0, 0, 0, 1, 2, 1);
      dueShortest(x, 0, 0, 0, 2, NONE, 0);
      dueShortest(x, 0, 2, 0, 0, NONE, 0);
      dueShortest(x, 0, 2, 0, 2, NONE, 0);
      dueShortest(x, 0, 2, 0, 1, NONE, 0);
      dueShortest(x, 0, 1, 0, 1, 0, 1);
      dueShortest(x, 0, 1, 0, 3, 3, 1);
      StampsCancel y = of("00", "aaaaaaaaaaa", "AAAAAAAAAAA", "aaaaaaaaaaaa");
      dueShortest(y, 0, 1, 0, 2, 22, 1);
      dueShortest(y, 0, 1, 0, 3, NONE, 0);
    });
    says("; NONE; how many ways have so few (a long that wraps)", () -> {
      StampsCancel x = of("10;01u;01u;01u;01u;01u;01u;01u", "aaaaaaaaaaa", "AAAAAAAAAAA");
      dueShortest(x, 0, 0, 1, 0, 1, 7);
      dueShortest(x, 1, 1, 0, 2, 45, 8922003266371364727L);
      dueShortest(x, 0, 0, 7, 0, NONE, 0);
      StampsCancel y = of("10;01u;01u;01u;01u;01u;01u;01u;01u", "aaaaaaaaaaa", "AAAAAAAAAAA");
      dueShortest(y, 0, 1, 1, 2, 43, Long.MIN_VALUE);
      dueShortest(y, 1, 1, 1, 2, 44, 0);
      StampsCancel z = of("01u;12u;03u;32u;02u;r1");
      z.shut(16);
      dueShortest(z, 0, 0, 2, 0, 2, 2);
      z.shut(0);
      dueShortest(z, 0, 0, 2, 0, 1, 1);
      StampsCancel u = of("01u;01u;01u");
      dueShortest(u, 0, 0, 1, 0, 1, 3);
      tell(u, 0, "01u;01u");
      dueShortest(u, 0, 0, 1, 0, 1, 2);
      type(u, 0, ";01u;");
      dueShortest(u, 0, 0, 1, 0, NONE, 0);
    });
    says("the least of these as a row (by the bytes of their letters).", () -> {
      StampsCancel x = of("01u;12u;10u;21u;02;r1", "e");
      dueLeast(x, 0, 0, 2, 0, "CD");
      x.shut(4);
      dueLeast(x, 0, 0, 2, 0, "aD");
      x.shut(8);
      dueLeast(x, 0, 0, 2, 0, "Cb");
      x.shut(4 + 8);
      dueLeast(x, 0, 0, 2, 0, "ab");
      dueLeast(x, 0, 0, 2, 1, "e");
      StampsCancel y = of("13u;02u;01u;23u");
      dueLeast(y, 0, 0, 3, 0, "bd");
      StampsCancel z = of("31u;02u;10u;23u");
      dueLeast(z, 0, 0, 3, 0, "CA");
    });
  }

  private static void errandsTerms() {
    says("ERRANDS: from a home, clean, to each of some TOWNS (bits) and home again, clean: FULLEST: the least number of stamps that the PAPER must have room for", () -> {
      StampsCancel x = of("01;12;23;04u;43u");
      dueErrands(x, 0, 0, 0, 0);
      dueErrands(x, 0, 1, 0, 0);
      dueErrands(x, 0, 8, 0, 4);
      dueErrands(x, 0, 4, 1, 6);
      dueErrands(x, 0, 2, 1, 2);
      dueErrands(x, 0, 31, 1, 2 * (1 + 3 + 2 + 1));
      dueErrands(x, 2, 1, 1, 6);
      dueErrands(x, 5, 32, 0, 0);
      dueErrands(of("01;12;23;34;45;56;67"), 0, 128, 7, 14);
      dueErrands(of("01;12;23;34;45;56;67"), 7, 1, 7, 14);
    });
    says("NONE: one cannot be reached, or ROOM is less", () -> {
      dueErrands(of("01;12;23;r3"), 0, 8, 3, 6);
      dueErrands(of("01;12;23;r2"), 0, 8, NONE, NONE);
      dueErrands(of("01;12;23;r2"), 0, 12, NONE, NONE);
      dueErrands(of("01;12;23;r2"), 0, 4, 2, 4);
      dueErrands(of("01;12;23;34;45;56;67;r7"), 0, 255, 7, 56);
      dueErrands(of("01;12;23;34;45;56;67;r6"), 0, 255, NONE, NONE);
      dueErrands(of("01;12;23"), 0, 16, NONE, NONE);
      dueErrands(of("01;12;23"), 0, 17, NONE, NONE);
      dueErrands(of(""), 0, 2, NONE, NONE);
      StampsCancel x = of("01;12;23");
      x.shut(4);
      dueErrands(x, 0, 8, NONE, NONE);
    });
    says("STEPS: twice, for each of them, the fewest GATES to it with no more than FULLEST stamps, together.", () -> {
      StampsCancel x = of("03;01u;12u;23u;34;45");
      dueErrands(x, 0, 8, 0, 6);
      dueErrands(x, 0, 16, 1, 8);
      dueErrands(x, 0, 8 + 16, 1, 2 * (1 + 4));
      dueErrands(x, 0, 32, 2, 2 * 5);
      dueErrands(x, 0, 8 + 16 + 32, 2, 2 * (1 + 2 + 5));
      dueErrands(x, 0, 4 + 16 + 32, 2, 2 * (2 + 2 + 5));
      dueErrands(x, 0, 1 + 2, 0, 2);
    });
    says("CLEAN: TOWNS that one may be in and come home clean, with the ROOM there is.", () -> {
      due("room for one", of("01;12;23;r1").clean(0), 3);
      due("room for two", of("01;12;23;r2").clean(0), 7);
      due("from the middle", of("01;12;23;r1").clean(1), 7);
      due("unwatched ones on the way", of("01;12u;23;34u;r2").clean(0), 31);
      due("room enough", of("01;12;23;34;45;56;67").clean(0), 255);
      due("room for seven", of("01;12;23;34;45;56;67;r7").clean(0), 255);
      due("room for six", of("01;12;23;34;45;56;67;r6").clean(0), 127);
      due("alone", of("01").clean(5), 32);
      StampsCancel x = of("01;12;23u");
      x.shut(2);
      due("shut", x.clean(0), 3);
      due("shut", x.clean(3), 12);
    });
  }

  private static void foundTerms() {
    says("FOUND: the PAPER of a WAY, whose bearer began clean in some TOWN: TOWNS where that may have been, TOWNS where one may be now", () -> {
      StampsCancel x = of("01;12;34;50u;26u", "ab", "ac", "BA");
      dueFound(x, 1, 1 + 32, 4 + 64);
      dueFound(x, 2, 0, 0);
      dueFound(x, 3, 4 + 64, 1 + 32);
      tell(x, 2, "c");
      dueFound(x, 2, 8, 16);
    });
    says("(SHUT GATES left aside, whatever ROOM;", () -> {
      StampsCancel x = of("01;12;50u;26u;r1", "ab");
      dueFound(x, 1, 1 + 32, 4 + 64);
      x.shut(4);
      dueFound(x, 1, 1, 4 + 64);
      x.shut(8);
      dueFound(x, 1, 1 + 32, 4);
      x.shut(1);
      dueFound(x, 1, 0, 0);
      x.shut(2);
      dueFound(x, 1, 0, 0);
      StampsCancel y = of("33;r1", "aaaaaaaaaaaaaaaaaaaaaaaaaaaaaa");
      dueFound(y, 1, 8, 8);
    });
    says("clean: any).", () -> {
      StampsCancel x = of("01;12u", "", "aA", "bB");
      x.shut(511);
      for (int way = 1; way <= 3; way++) dueFound(x, way, 255, 255);
      dueFound(new StampsCancel(), 1, 255, 255);
    });
    says("MANY: how many ways of n GATES (0 to 12) lead from a TOWN, clean, to a TOWN with that PAPER", () -> {
      StampsCancel x = of("01;12u", "a", "", "aA");
      due("none yet", x.many(0, 1, 1, 0), 0);
      due("a", x.many(0, 1, 1, 1), 1);
      due("ab", x.many(0, 1, 2, 2), 1);
      due("aAa, abB", x.many(0, 1, 1, 3), 2);
      due("to the other town", x.many(0, 1, 0, 3), 0);
      due("of no gate", x.many(3, 2, 3, 0), 1);
      due("of no gate, to another town", x.many(3, 2, 4, 0), 0);
      due("a clean one by two", x.many(0, 3, 0, 2), 1);
      due("aAaA, abBA", x.many(0, 3, 0, 4), 2);
      due("13 gates", x.many(0, 1, 1, 13), LONG_BAD);
      due("-1 gates", x.many(0, 1, 1, -1), LONG_BAD);
      StampsCancel y = of("00", "aaaaaaaaaaaa", "aaaaaaaaaaaaa", "");
      due("as many stamps as gates", y.many(0, 1, 0, 12), 1);
      due("more stamps than gates", y.many(0, 2, 0, 12), 0);
      due("one gate too few", y.many(0, 1, 0, 11), 0);
      due("12 gates, clean", y.many(0, 3, 0, 12), 924);
      StampsCancel z = of("00u;00u;00u;00u;00u;00u;00u;00u;00u");
      due("18 to the 12th", z.many(0, 1, 0, 12), 1156831381426176L);
      StampsCancel u = of("01;23u", "", "A");
      due("an unwatched one behind a watched one", u.many(2, 1, 3, 1), 1);
      due("the other way about", u.many(3, 1, 2, 1), 1);
      due("bBb", u.many(2, 1, 3, 3), 1);
      due("A", u.many(1, 2, 0, 1), 1);
      due("AaA", u.many(1, 2, 0, 3), 1);
      due("AaAaA", u.many(1, 2, 0, 5), 1);
    });
    says("(no SHUT ones; whatever ROOM).", () -> {
      StampsCancel x = of("00;00;r1", "aa", "a", "");
      due("aa", x.many(0, 1, 0, 2), 1);
      due("aA, Aa, bB, Bb", x.many(0, 3, 0, 2), 4);
      due("clean, of four", x.many(0, 3, 0, 4), 28);
      x.shut(2);
      due("aA, Aa", x.many(0, 3, 0, 2), 2);
      due("clean, of four", x.many(0, 3, 0, 4), 6);
      x.shut(1);
      due("no a", x.many(0, 2, 0, 1), 0);
      due("no a among more", x.many(0, 2, 0, 5), 0);
      x.shut(3);
      due("none", x.many(0, 3, 0, 2), 0);
      due("of no gate", x.many(0, 3, 0, 0), 1);
      StampsCancel y = of("01u;12u");
      y.shut(2);
      due("an unwatched one", y.many(0, 1, 2, 2), 0);
      due("the other one", y.many(0, 1, 0, 2), 1);
    });
  }

  private static void farTerms() {
    says("FAR: the fewest GATES from a TOWN to a TOWN (PAPERS left aside, no SHUT ones); NONE.", () -> {
      StampsCancel x = of("01;12;23u;30;55;r1");
      due("to itself", x.far(4, 4), 0);
      due("one", x.far(0, 1), 1);
      due("the other way about", x.far(1, 0), 1);
      due("two", x.far(0, 2), 2);
      due("whatever room", of("01;12;23;34;45;56;67;r1").far(0, 7), 7);
      due("by a gate of its own alone", x.far(5, 4), NONE);
      due("none", x.far(0, 7), NONE);
      x.shut(8);
      due("no shut ones", x.far(0, 3), 3);
      x.shut(8 + 4);
      due("none is left", x.far(0, 3), NONE);
      due("to itself", x.far(3, 3), 0);
    });
    says("BY a change: with one GATE more SHUT, or with a new one between two TOWNS: of how many pairs of TOWNS (each two once) FAR is another one then (NONE is another one, too)", () -> {
      StampsCancel x = of("01;12;20;45");
      dueWithout(x, 0, 1, 1);
      dueWithout(x, 3, 1, 0);
      x.shut(4);
      dueWithout(x, 0, 2, 0);
      dueWith(x, 2, 0, 1, 1);
      dueWith(x, 2, 4, 6, 0);
      dueWith(x, 6, 7, 1, 0);
      due("nothing was shut by it", x.shut(0), 4);
      due("nor made", x.count(0), 4);
    });
    says("the most by which it grows or falls (from or to NONE left aside).", () -> {
      StampsCancel x = of("01;12;23;34;45;56;67;70");
      dueWithout(x, 0, 6, 6);
      dueWith(x, 0, 4, 7, 3);
      x.shut(128);
      dueWith(x, 0, 7, 6, 6);
      dueWithout(x, 3, 16, 0);
      StampsCancel y = of("01;12;20;23;34;67");
      dueWithout(y, 0, 1, 1);
      dueWithout(y, 3, 6, 0);
      dueWith(y, 0, 4, 2, 2);
      dueWith(y, 4, 5, 5, 0);
    });
  }

  private static void paper() {
    in("Promise 8");
    says("PAPER of a WAY (1 to 3): how many stamps (i = NONE), the i-th as a byte (NONE beyond).", () -> {
      StampsCancel x = of("00;00", "aB", "", "aaaaaaaaaaaaaaaaaaaaaaaaaaaaab");
      due("stamps", x.paper(1, NONE), 2);
      due("first", x.paper(1, 0), 'a');
      due("last", x.paper(1, 1), 'B');
      due("beyond", x.paper(1, 2), NONE);
      due("far beyond", x.paper(1, MOST), NONE);
      due("of none", x.paper(2, NONE), 0);
      due("beyond none", x.paper(2, 0), NONE);
      due("thirty", x.paper(3, NONE), 30);
      due("the thirtieth", x.paper(3, 29), 'b');
      due("beyond the thirtieth", x.paper(3, 30), NONE);
      due("way 0", x.paper(0, 0), BAD);
      due("way 4", x.paper(4, 0), BAD);
    });
    says("BAD: also i below NONE.", () -> {
      StampsCancel x = of("00", "a");
      due("-2", x.paper(1, -2), BAD);
      due("the least int", x.paper(1, LEAST), BAD);
      due("NONE is not below", x.paper(1, NONE), 1);
    });
  }

  private static void judged() {
    in("Promise 9");
    says("JUDGED: the place (what = 0; NONE), the TOWN (1), at its fullest (2), how long (3), how many pairs were struck out (4).", () -> {
      StampsCancel x = of("01;12;r2", "abBb", "abBBA", "abBA");
      dueJudged(x, 1, 0, 0, NONE, 2, 2, 2, 1);
      dueJudged(x, 2, 0, 0, 3, 1, 2, 1, 1);
      dueJudged(x, 3, 0, 0, NONE, 0, 2, 0, 2);
      dueJudged(x, 3, 7, 1, 0, 7, 2, 2, 0);
      due("what below", x.judged(1, 0, 0, -1), BAD);
      due("what above", x.judged(1, 0, 0, 5), BAD);
    });
    says("BAD (begins: 0 clean, 1 to 3 a WAY).", () -> {
      StampsCancel x = of("00;00", "a", "bb", "");
      due("clean", x.judged(1, 0, 0, 3), 1);
      due("itself", x.judged(1, 0, 1, 3), 2);
      due("way 2", x.judged(1, 0, 2, 3), 3);
      due("way 3", x.judged(1, 0, 3, 3), 1);
      due("begins below", x.judged(1, 0, -1, 0), BAD);
      due("begins above", x.judged(1, 0, 4, 0), BAD);
      due("way 0", x.judged(0, 0, 0, 0), BAD);
      due("way 4", x.judged(4, 0, 0, 0), BAD);
      due("town below", x.judged(1, -1, 0, 0), BAD);
      due("town above", x.judged(1, 8, 0, 0), BAD);
      due("the last town", x.judged(1, 7, 0, 1), 7);
    });
  }

  private static void same() {
    in("Promise 10");
    says("SAME: 1, 0. BAD.", () -> {
      StampsCancel x = of("00;00u", "a", "ab", "A");
      due("one paper", x.same(1, 2), 1);
      due("two", x.same(1, 3), 0);
      due("itself", x.same(3, 3), 1);
      due("a is 0", x.same(0, 1), BAD);
      due("a is 4", x.same(4, 1), BAD);
      due("b is 0", x.same(1, 0), BAD);
      due("b is 4", x.same(1, 4), BAD);
    });
  }

  private static void shortest() {
    in("Promise 11");
    says("SHORTEST from a TOWN with the PAPER of a WAY (0: clean) to another: the fewest GATES (what = 0; NONE), how many ways (1; 0). BAD. (As the least long and x more.)", () -> {
      StampsCancel x = of("01;12u;12u", "a", "A");
      dueShortest(x, 0, 0, 2, 1, 2, 2);
      dueShortest(x, 2, 1, 0, 0, 2, 2);
      dueShortest(x, 0, 3, 2, 1, 2, 2);
      dueShortest(x, 0, 0, 1, 2, NONE, 0);
      dueShortest(x, 7, 0, 7, 3, 0, 1);
      due("from below", x.shortest(-1, 0, 0, 0, 0), LONG_BAD);
      due("from above", x.shortest(8, 0, 0, 0, 0), LONG_BAD);
      due("a below", x.shortest(0, -1, 0, 0, 0), LONG_BAD);
      due("a above", x.shortest(0, 4, 0, 0, 0), LONG_BAD);
      due("to below", x.shortest(0, 0, -1, 0, 0), LONG_BAD);
      due("to above", x.shortest(0, 0, 8, 0, 0), LONG_BAD);
      due("b below", x.shortest(0, 0, 0, -1, 0), LONG_BAD);
      due("b above", x.shortest(0, 0, 0, 4, 0), LONG_BAD);
      due("what below", x.shortest(0, 0, 0, 0, -1), LONG_BAD);
      due("what above", x.shortest(0, 0, 0, 0, 2), LONG_BAD);
    });
  }

  private static void letter() {
    in("Promise 12");
    says("The i-th letter of the least of these ways, as a byte (0 on; NONE beyond, or where there is none).", () -> {
      StampsCancel x = of("01;12u;12u", "a", "A");
      dueLeast(x, 0, 0, 2, 1, "ab");
      dueLeast(x, 2, 1, 0, 0, "BA");
      dueLeast(x, 1, 1, 1, 1, "");
      dueLeast(x, 0, 0, 1, 2, "");
      due("far beyond", x.letter(0, 0, 2, 1, MOST), NONE);
      due("far beyond where there is none", x.letter(0, 0, 1, 2, MOST), NONE);
      StampsCancel y = of("10;01u;r11", "aaaaaaaaaaa", "AAAAAAAAAAA");
      dueLeast(y, 1, 1, 0, 2, "BABABABABABABABABABABABABABABABABABABABABABAB");
    });
    says("BAD: also i below 0.", () -> {
      StampsCancel x = of("01;12u;12u", "a");
      due("i is NONE", x.letter(0, 0, 2, 1, NONE), BAD);
      due("i is the least int", x.letter(0, 0, 2, 1, LEAST), BAD);
      due("i is 0", x.letter(0, 0, 2, 1, 0), 'a');
      due("from below", x.letter(-1, 0, 0, 0, 0), BAD);
      due("from above", x.letter(8, 0, 0, 0, 0), BAD);
      due("a below", x.letter(0, -1, 0, 0, 0), BAD);
      due("a above", x.letter(0, 4, 0, 0, 0), BAD);
      due("to below", x.letter(0, 0, -1, 0, 0), BAD);
      due("to above", x.letter(0, 0, 8, 0, 0), BAD);
      due("b below", x.letter(0, 0, 0, -1, 0), BAD);
      due("b above", x.letter(0, 0, 0, 4, 0), BAD);
    });
  }

  private static void errands() {
    in("Promise 13");
    says("ERRANDS: FULLEST (what = 0; NONE), STEPS (1; NONE).", () -> {
      StampsCancel x = of("01;12;r2");
      dueErrands(x, 0, 4, 2, 4);
      dueErrands(x, 0, 7, 2, 6);
      dueErrands(x, 0, 8, NONE, NONE);
      due("what below", x.errands(0, 0, -1), BAD);
      due("what above", x.errands(0, 0, 2), BAD);
    });
    says("BAD (TOWNS 0 to 255).", () -> {
      StampsCancel x = of("01;02;03;04;05;06;07");
      dueErrands(x, 0, 0, 0, 0);
      dueErrands(x, 0, 255, 1, 14);
      due("towns below", x.errands(0, -1, 0), BAD);
      due("towns above", x.errands(0, 256, 0), BAD);
      due("home below", x.errands(-1, 0, 0), BAD);
      due("home above", x.errands(8, 0, 0), BAD);
      dueErrands(x, 7, 128, 0, 0);
    });
  }

  private static void clean() {
    in("Promise 14");
    says("CLEAN, as bits. BAD.", () -> {
      StampsCancel x = of("07;70");
      due("clean(0)", x.clean(0), 129);
      due("clean(7)", x.clean(7), 129);
      due("clean(3)", x.clean(3), 8);
      due("below", x.clean(-1), BAD);
      due("above", x.clean(8), BAD);
    });
  }

  private static void found() {
    in("Promise 15");
    says("FOUND: where one may have begun (what = 0), may be (1), as bits. BAD.", () -> {
      StampsCancel x = of("07", "a", "A", "aa");
      dueFound(x, 1, 1, 128);
      dueFound(x, 2, 128, 1);
      dueFound(x, 3, 0, 0);
      due("way 0", x.found(0, 0), BAD);
      due("way 4", x.found(4, 0), BAD);
      due("what below", x.found(1, -1), BAD);
      due("what above", x.found(1, 2), BAD);
    });
  }

  private static void many() {
    in("Promise 16");
    says("MANY. BAD. (As the least long and x more.)", () -> {
      StampsCancel x = of("07;77", "a", "", "ab");
      due("a", x.many(0, 1, 7, 1), 1);
      due("aAa, abB, aBb", x.many(0, 1, 7, 3), 3);
      due("ab", x.many(0, 3, 7, 2), 1);
      due("of no gate", x.many(7, 2, 7, 0), 1);
      due("clean by twelve", x.many(3, 2, 3, 12), 0);
      due("from below", x.many(-1, 1, 0, 0), LONG_BAD);
      due("from above", x.many(8, 1, 0, 0), LONG_BAD);
      due("way 0", x.many(0, 0, 0, 0), LONG_BAD);
      due("way 4", x.many(0, 4, 0, 0), LONG_BAD);
      due("to below", x.many(0, 1, -1, 0), LONG_BAD);
      due("to above", x.many(0, 1, 8, 0), LONG_BAD);
      due("n below", x.many(0, 1, 0, -1), LONG_BAD);
      due("n above", x.many(0, 1, 0, 13), LONG_BAD);
    });
  }

  private static void far() {
    in("Promise 24");
    says("FAR; NONE. BAD.", () -> {
      StampsCancel x = of("07;71u");
      due("far(0, 1)", x.far(0, 1), 2);
      due("far(7, 7)", x.far(7, 7), 0);
      due("far(0, 2)", x.far(0, 2), NONE);
      due("from below", x.far(-1, 0), BAD);
      due("from above", x.far(8, 0), BAD);
      due("to below", x.far(0, -1), BAD);
      due("to above", x.far(0, 8), BAD);
    });
  }

  private static void without() {
    in("Promise 25");
    says("With a GATE more SHUT (SHUT already: 0, 0): of how many pairs FAR is another one (what = 0), the most by which (1). BAD.", () -> {
      StampsCancel x = of("01;12;20;33");
      dueWithout(x, 0, 1, 1);
      dueWithout(x, 3, 0, 0);
      x.shut(1);
      dueWithout(x, 0, 0, 0);
      dueWithout(x, 1, 2, 0);
      due("no such gate", x.without(4, 0), BAD);
      due("below", x.without(-1, 0), BAD);
      due("what below", x.without(0, -1), BAD);
      due("what above", x.without(0, 2), BAD);
      due("of no gates", new StampsCancel().without(0, 0), BAD);
    });
  }

  private static void with() {
    in("Promise 26");
    says("With a new GATE between two TOWNS (a TOWN and itself: 0, 0): likewise. BAD.", () -> {
      StampsCancel x = of("01;12;23;44;44;44;44;44;44");
      dueWith(x, 0, 3, 1, 2);
      dueWith(x, 3, 0, 1, 2);
      for (int town = 0; town < 8; town++) dueWith(x, town, town, 0, 0);
      dueWith(x, 0, 1, 0, 0);
      dueWith(x, 3, 7, 4, 0);
      due("a below", x.with(-1, 0, 0), BAD);
      due("a above", x.with(8, 0, 0), BAD);
      due("b below", x.with(0, -1, 0), BAD);
      due("b above", x.with(0, 8, 0), BAD);
      due("what below", x.with(0, 0, -1), BAD);
      due("what above", x.with(0, 0, 2), BAD);
    });
  }
}
