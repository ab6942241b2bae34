/** Texts, gates, and what a letter does (promises 1 to 7). */
final class SentencesOfTexts extends Sentence {
  private static final String NINE = "00;01;02;03;04;05;06;07;11";

  static void all() {
    in("Terms");
    says("An object is used for at most 512 calls after it has been made; what later calls answer is free.", SentencesOfTexts::lastCall);
    land();
    faults();
    ways();
    in("Promise 1");
    says("An empty LAND, empty WAYS; all SHEETS are LOST.", SentencesOfTexts::newObject);
    in("Promise 2");
    says("A byte (0 to 255) comes behind a text: how many. BAD; FULL.", SentencesOfTexts::type);
    in("Promise 3");
    says("A text is empty: how many bytes it had. BAD.", SentencesOfTexts::wipe);
    in("Promise 4");
    says("The FAULT of a text; NONE. BAD.", SentencesOfTexts::fault);
    in("Promise 5");
    says("Of a GATE: the first TOWN (0), the second (1), whether it is WATCHED (2), SHUT (3). BAD.", SentencesOfTexts::gate);
    in("Promise 6");
    says("ROOM.", SentencesOfTexts::room);
    in("Promise 7");
    says("GATES that are SHUT (bits, 0 to 511): what they were. BAD.", SentencesOfTexts::shut);
  }

  private static void dueFault(String land, int want) {
    due("fault(0) of " + land, of(land).fault(0), want);
  }

  private static void dueGate(StampsCancel x, int gate, int... want) {
    for (int what = 0; what < 4; what++) due("gate(" + gate + ", " + what + ")", x.gate(gate, what), want[what]);
  }

  private static void land() {
    says("THE LAND (text 0) is of up to 50 bytes", () -> {
      StampsCancel x = of("00u;00u;00u;00u;00u;00u;00u;00u;00u;r11;r11;r11;r1");
      due("bytes", x.count(2), 50);
      due("fault(0)", x.fault(0), NONE);
      due("the last byte is heard", x.room(), 1);
      due("one byte more", x.type(0, '1'), FULL);
      due("it is not heard", x.room(), 1);
      due("bytes", x.count(2), 50);
    });
    says("parts with ; between them", () -> {
      dueFault("01;12;r3;23u;r4", NONE);
      dueFault("0112", 2);
      dueFault("01,12", 2);
      dueFault("01:12", 2);
      dueFault("01u12", 3);
      dueFault("r3r4", 2);
      dueFault(";01", 0);
      dueFault("01;;12", 3);
    });
    says("two figures of TOWNS (0 to 7)", () -> {
      for (char a = '0'; a <= '7'; a++) for (char b = '0'; b <= '7'; b++) dueFault("" + a + b, NONE);
      for (char out : new char[] {'/', '8', '9', ':', 'a', 0, 255}) {
        dueFault(out + "0", 0);
        dueFault("0" + out, 1);
        dueFault("00;" + out + "0", 3);
        dueFault("00;0" + out, 4);
      }
      dueFault("012", 2);
    });
    says("perhaps u", () -> {
      due("u", of("01u;12").fault(0), NONE);
      dueFault("01uu", 3);
      dueFault("01U", 2);
      dueFault("0u1", 1);
      dueFault("u01", 0);
      dueFault("01 u", 2);
      dueFault("r3u", 2);
    });
    says("a GATE (9 at most; 0 on)", () -> {
      StampsCancel x = of(NINE);
      due("nine", x.count(0), 9);
      dueGate(x, 0, 0, 0, 1, 0);
      dueGate(x, 8, 1, 1, 1, 0);
      due("no gate 9", x.gate(9, 0), BAD);
      due("no gate ahead of 0", x.gate(-1, 0), BAD);
      due("ten", of(NINE + ";12").count(0), 0);
    });
    says("from the first TOWN to the second (perhaps the same)", () -> {
      StampsCancel x = of("70;33", "a", "b");
      dueGate(x, 0, 7, 0, 1, 0);
      dueGate(x, 1, 3, 3, 1, 0);
      dueJudged(x, 1, 7, 0, NONE, 0, 1, 1, 0);
      dueJudged(x, 1, 0, 0, 0, 0, 0, 0, 0);
      dueJudged(x, 2, 3, 0, NONE, 3, 1, 1, 0);
    });
    says("with u it is UNWATCHED", () -> {
      StampsCancel x = of("01u;01", "a", "b");
      due("with u", x.gate(0, 2), 0);
      due("without", x.gate(1, 2), 1);
      duePaper(x, 1, "");
      duePaper(x, 2, "b");
    });
    says("or r and a number (one or two figures, 1 to 11)", () -> {
      for (int n = 1; n <= 11; n++) due("room() of r" + n, of("r" + n).room(), n);
      for (int n = 1; n <= 9; n++) due("room() of r0" + n, of("r0" + n).room(), n);
      due("no gate", of("r7").count(0), 0);
      dueFault("r", 1);
      dueFault("r;", 1);
      dueFault("r/", 1);
      dueFault("r:", 1);
      dueFault("ru", 1);
      dueFault("R3", 0);
      dueFault("r110", 3);
      dueFault("r001", 1);
      dueFault("r3:", 2);
      dueFault("r3/", 2);
    });
    says("ROOM (the last one; 11, if it is not told)", () -> {
      due("the last one", of("r9;01;r2;12").room(), 2);
      due("a greater one", of("r2;r9").room(), 9);
      due("not told", of("01;12").room(), 11);
      due("of an empty text", of("").room(), 11);
      StampsCancel x = of("r2;r9");
      tell(x, 0, "01");
      due("of a text that was", x.room(), 11);
    });
    says("GATES can be SHUT (bits; none at first): nobody goes through.", () -> {
      StampsCancel x = of("01;12;12u", "ab", "bB", "cC");
      due("none at first", x.gate(0, 3) + x.gate(1, 3) + x.gate(2, 3), 0);
      due("shut(2)", x.shut(2), 0);
      due("bits", x.gate(0, 3) * 100 + x.gate(1, 3) * 10 + x.gate(2, 3), 10);
      dueJudged(x, 1, 0, 0, 1, 1, 1, 1, 0);
      dueJudged(x, 2, 1, 0, 0, 1, 0, 0, 0);
      x.shut(2 + 4);
      dueJudged(x, 3, 1, 0, 0, 1, 0, 0, 0);
      due("far(1, 2)", x.far(1, 2), NONE);
      dueShortest(x, 1, 0, 2, 0, NONE, 0);
      dueErrands(x, 1, 4, NONE, NONE);
      due("clean(2)", x.clean(2), 4);
      due("many", x.many(1, 2, 1, 2), 1);
      x.shut(4);
      due("back through one that is shut now", x.judged(2, 1, 0, 0), NONE);
    });
  }

  private static void faults() {
    says("The FAULT is the place of the first byte with which it cannot go on", () -> {
      dueFault("x", 0);
      dueFault("x;y", 0);
      dueFault("01;12;2x;3y", 7);
      dueFault("01;12x", 5);
      dueFault("01;12ux", 6);
      dueFault("01;r3x", 5);
      dueFault("01;rx", 4);
      dueFault("01;x", 3);
    });
    says("(an empty text is well;", () -> {
      StampsCancel x = new StampsCancel();
      due("at first", x.fault(0), NONE);
      x.type(0, 'x');
      x.wipe(0);
      due("wiped", x.fault(0), NONE);
    });
    says("of one that is not ended, as behind a ;, its end)", () -> {
      dueFault("0", 1);
      dueFault("r", 1);
      dueFault("01;", 3);
      dueFault("01u;", 4);
      dueFault("r3;", 3);
      dueFault("r11;", 4);
      dueFault("01;2", 4);
      dueFault("01;r", 4);
      dueFault(NINE + ";", 27);
      StampsCancel x = of("00u;00u;00u;00u;00u;00u;00u;00u;00u;r11;r11;r1;r1;");
      due("bytes", x.count(2), 50);
      due("its end is no byte", x.fault(0), 50);
    });
    says("of the first byte of a tenth GATE", () -> {
      dueFault(NINE, NONE);
      dueFault(NINE + ";12", 27);
      dueFault(NINE + ";1", 27);
      dueFault(NINE + ";12u", 27);
      dueFault(NINE + ";12x", 27);
      dueFault(NINE + ";12;x", 27);
      dueFault(NINE + ";r5;12", 30);
      dueFault("r5;" + NINE + ";12", 30);
      dueFault(NINE + ";r5;r6", NONE);
      dueFault(NINE + "u;r5", NONE);
    });
    says("of the first figure of a ROOM that may not be.", () -> {
      dueFault("r0", 1);
      dueFault("r00", 1);
      dueFault("r12", 1);
      dueFault("r13", 1);
      dueFault("r20", 1);
      dueFault("r99", 1);
      dueFault("r0;01", 1);
      dueFault("r12;x", 1);
      dueFault("r123", 1);
      dueFault("01;r12", 4);
      dueFault("01;r0", 4);
    });
    says("With a FAULT it is as if it was empty.", () -> {
      StampsCancel x = of("r4;01;12u;", "ab"), y = of("", "ab");
      due("the fault", x.fault(0), 10);
      due("gates", x.count(0), 0);
      due("watched", x.count(1), 0);
      due("gate(0, 0)", x.gate(0, 0), BAD);
      due("room()", x.room(), 11);
      due("a way's letters", x.fault(1), 0);
      due("paper(1, -1)", x.paper(1, NONE), 0);
      due("far(0, 1)", x.far(0, 1), NONE);
      due("its bytes are there", x.count(2), 10);
      due("with(0, 1, 0)", x.with(0, 1, 0), y.with(0, 1, 0));
      type(x, 0, "23");
      due("when it goes on", x.fault(0), NONE);
      due("gates", x.count(0), 3);
      due("room()", x.room(), 4);
    });
  }

  private static void ways() {
    says("WAYS are texts 1 to 3, of up to 30 bytes each", () -> {
      for (int way = 1; way <= 3; way++) {
        StampsCancel x = of("00;00");
        tell(x, way, "aaaaaaaaaaaaaaaaaaaaaaaaaaaaab");
        due("bytes", x.count(2 + way), 30);
        due("the last byte is heard", x.paper(way, 29), 'b');
        due("one more", x.type(way, 'a'), FULL);
        due("bytes", x.count(2 + way), 30);
        due("stamps", x.paper(way, NONE), 30);
        due("the other texts are as they were", x.count(2) + x.count(3) + x.count(4) + x.count(5), 5 + 30);
      }
    });
    says("a small letter (a is GATE 0, and so on): through a GATE from the first TOWN to the second; a great letter: the other way.", () -> {
      StampsCancel x = of("01;12;23;34;45;56;67;70;07", "abcdefgh", "HGFEDCBA", "iI");
      dueJudged(x, 1, 0, 0, NONE, 0, 8, 8, 0);
      dueJudged(x, 2, 0, 0, NONE, 0, 8, 8, 0);
      dueJudged(x, 3, 0, 0, NONE, 0, 1, 0, 1);
      dueJudged(x, 1, 1, 0, 0, 1, 0, 0, 0);
      dueJudged(x, 2, 7, 0, 0, 7, 0, 0, 0);
    });
    says("The FAULT: the first byte that is no such letter of a GATE that there is (WATCHED or not, SHUT or not); NONE.", () -> {
      StampsCancel x = of("01;12u", "", "abAB", "abcd");
      due("of none", x.fault(1), NONE);
      due("watched or not", x.fault(2), NONE);
      due("the first", x.fault(3), 2);
      x.shut(511);
      due("shut or not", x.fault(2), NONE);
      for (char out : new char[] {'@', 'C', '`', 'c', 0, 255, 'a' + 128, ';', '0'}) {
        tell(x, 1, "a" + out + "b");
        due("fault(1) of a" + out + "b", x.fault(1), 1);
      }
      tell(x, 0, NINE);
      tell(x, 1, "abcdefghiABCDEFGHI");
      due("all of nine", x.fault(1), NONE);
      tell(x, 1, "iJ");
      due("J", x.fault(1), 1);
      tell(x, 1, "Ij");
      due("j", x.fault(1), 1);
      tell(x, 0, "");
      due("of no gate", x.fault(2), 0);
    });
    says("With a FAULT a WAY is as if it was empty.", () -> {
      StampsCancel x = of("00;01u", "a?", "a", "");
      duePaper(x, 1, "");
      dueJudged(x, 1, 0, 0, NONE, 0, 0, 0, 0);
      dueJudged(x, 2, 0, 1, NONE, 0, 1, 1, 0);
      due("same(1, 3)", x.same(1, 3), 1);
      due("same(1, 2)", x.same(1, 2), 0);
      dueShortest(x, 0, 1, 0, 2, 1, 1);
      dueShortest(x, 0, 2, 0, 1, 1, 1);
      dueLeast(x, 0, 2, 1, 1, "Ab");
      dueFound(x, 1, 255, 255);
      due("many", x.many(0, 1, 1, 1), 1);
      x.list(1, 1);
      dueListed(x, 0, "");
      due("lets(1)", x.lets(1, 2047), 1);
      lay(x, 0, 0, 7);
      due("write", x.write(1, 0), 0);
      due("its bytes are there", x.count(3), 2);
      tell(x, 0, "00;01u;11;22");
      tell(x, 1, "ad");
      duePaper(x, 1, "ad");
      tell(x, 0, "00;01u;11");
      due("when the land loses a gate", x.fault(1), 1);
      duePaper(x, 1, "");
    });
    says("A PAPER is a row of stamps: letters of WATCHED GATES, none next to the same letter small and great.", () -> {
      StampsCancel x = of("00;00u;00", "abcBACabcA", "aAbBcCb", "abAcBC");
      duePaper(x, 1, "acACacA");
      duePaper(x, 2, "");
      duePaper(x, 3, "");
    });
    says("Going through a WATCHED GATE: if the last stamp is that GATE the other way about, it is struck out; else the letter is stamped behind it.", () -> {
      StampsCancel x = of("00;00;01", "aA", "aa", "aB");
      dueJudged(x, 1, 0, 0, NONE, 0, 1, 0, 1);
      dueJudged(x, 2, 0, 0, NONE, 0, 2, 2, 0);
      dueJudged(x, 3, 0, 0, NONE, 0, 2, 2, 0);
      tell(x, 1, "Aa");
      dueJudged(x, 1, 0, 0, NONE, 0, 1, 0, 1);
      dueJudged(x, 1, 0, 2, NONE, 0, 2, 2, 1);
      tell(x, 1, "abBA");
      dueJudged(x, 1, 0, 0, NONE, 0, 2, 0, 2);
      tell(x, 1, "abAB");
      dueJudged(x, 1, 0, 0, NONE, 0, 4, 4, 0);
      tell(x, 1, "aAa");
      duePaper(x, 1, "a");
    });
    says("PAPER of a WAY: what is left when its letters (UNWATCHED ones left out) are stamped on a clean one, wherever they are: NORMAL.", () -> {
      StampsCancel x = of("01;23u;45;r1", "ac", "abA", "accCb");
      duePaper(x, 1, "ac");
      duePaper(x, 2, "");
      duePaper(x, 3, "ac");
      x.shut(511);
      duePaper(x, 1, "ac");
      due("a way through none", x.judged(1, 0, 0, 0), 0);
    });
  }

  private static void lastCall() {
    StampsCancel x = of("01;12u", "ab");
    long first = x.digest();
    int wipes = 2, types = 8, digests = 1;
    for (int calls = wipes + types + digests; calls < 510; calls++) x.judged(1, calls & 7, calls & 3, calls % 5);
    due("the 511th call", x.judged(1, 0, 0, 1), 2);
    due("the 512th call", x.digest(), first);
    int ended = 0;
    for (int calls = 512; calls < 2048; calls++, ended++) x.many(calls & 7, 1, 2, calls % 14);
    due("later calls end", ended, 2048 - 512);
  }

  private static void newObject() {
    StampsCancel x = new StampsCancel();
    for (int what = 0; what <= 8; what++) due("count(" + what + ")", x.count(what), 0);
    for (int text = 0; text < 4; text++) due("fault(" + text + ")", x.fault(text), NONE);
    for (int s = 0; s < 4; s++) due("lose(" + s + ")", x.lose(s), NULL);
    for (int text = 0; text < 4; text++) due("wipe(" + text + ")", x.wipe(text), 0);
    due("shut(0)", x.shut(0), 0);
    due("room()", x.room(), 11);
    x.type(1, 'a');
    x.sheet(0, 0, 1);
    StampsCancel y = new StampsCancel();
    due("another object has none of it", y.count(3), 0);
    due("nor of its sheets", y.lose(0), NULL);
  }

  private static void type() {
    StampsCancel x = of("01;12");
    for (int text = 1; text <= 3; text++) {
      due("first", x.type(text, 0), 1);
      due("second", x.type(text, 255), 2);
      due("a byte below", x.type(text, -1), BAD);
      due("a byte above", x.type(text, 256), BAD);
      due("97 and 256 more", x.type(text, 97 + 256), BAD);
      due("third", x.type(text, 97), 3);
    }
    due("behind it", x.type(0, ';'), 6);
    due("text below", x.type(-1, 0), BAD);
    due("text above", x.type(4, 0), BAD);
    for (int i = 7; i <= 50; i++) due("up to 50", x.type(0, 'x'), i);
    due("full", x.type(0, 'x'), FULL);
    due("BAD ahead of FULL", x.type(0, 256), BAD);
    due("BAD ahead of FULL, below", x.type(0, -1), BAD);
    for (int i = 4; i <= 30; i++) due("up to 30", x.type(2, 'a'), i);
    due("full", x.type(2, 'a'), FULL);
    due("BAD ahead of FULL", x.type(2, 256), BAD);
    due("the next one is not full", x.type(3, 'a'), 4);
  }

  private static void wipe() {
    StampsCancel x = of("01;12", "a", "ab", "");
    int[] had = {5, 1, 2, 0};
    for (int text = 3; text >= 0; text--) {
      due("wipe(" + text + ")", x.wipe(text), had[text]);
      due("it is empty", x.count(2 + text), 0);
      due("wipe(" + text + ") again", x.wipe(text), 0);
    }
    due("no gates", x.count(0), 0);
    for (int i = 0; i < 30; i++) x.type(1, 'a');
    due("a full one", x.wipe(1), 30);
    due("there is room again", x.type(1, 'a'), 1);
    for (int i = 0; i < 50; i++) x.type(0, 'a');
    due("a full land", x.wipe(0), 50);
    due("without a fault then", x.fault(0), NONE);
    due("below", x.wipe(-1), BAD);
    due("above", x.wipe(4), BAD);
  }

  private static void fault() {
    StampsCancel x = of("01;8", "?", "", "a");
    due("of the land", x.fault(0), 3);
    due("of way 1", x.fault(1), 0);
    due("of way 2", x.fault(2), NONE);
    due("of way 3", x.fault(3), 0);
    tell(x, 0, "01");
    due("none of the land", x.fault(0), NONE);
    due("none of way 3", x.fault(3), NONE);
    tell(x, 3, "aaaaaaaaaaaaaaaaaaaaaaaaaaaaa?");
    due("at the last byte", x.fault(3), 29);
    due("below", x.fault(-1), BAD);
    due("above", x.fault(4), BAD);
  }

  private static void gate() {
    StampsCancel x = of("07;70u;34", "c");
    x.shut(1 + 2);
    dueGate(x, 0, 0, 7, 1, 1);
    dueGate(x, 1, 7, 0, 0, 1);
    dueGate(x, 2, 3, 4, 1, 0);
    due("no such gate", x.gate(3, 0), BAD);
    due("below", x.gate(-1, 0), BAD);
    due("what below", x.gate(0, -1), BAD);
    due("what above", x.gate(0, 4), BAD);
    due("of an empty land", new StampsCancel().gate(0, 0), BAD);
  }

  private static void room() {
    StampsCancel x = new StampsCancel();
    due("not told", x.room(), 11);
    type(x, 0, "r");
    due("not ended", x.room(), 11);
    type(x, 0, "1");
    due("r1", x.room(), 1);
    type(x, 0, "0");
    due("r10", x.room(), 10);
    type(x, 0, ";");
    due("not ended", x.room(), 11);
    type(x, 0, "r12");
    due("one that may not be", x.room(), 11);
    x.wipe(0);
    due("wiped", x.room(), 11);
  }

  private static void shut() {
    StampsCancel x = of(NINE);
    due("none were", x.shut(511), 0);
    for (int g = 0; g < 9; g++) due("gate(" + g + ", 3)", x.gate(g, 3), 1);
    due("all were", x.shut(256), 511);
    for (int g = 0; g < 9; g++) due("gate(" + g + ", 3)", x.gate(g, 3), g == 8 ? 1 : 0);
    due("above", x.shut(512), BAD);
    due("below", x.shut(-1), BAD);
    due("as it was", x.shut(0), 256);
    due("none were", x.shut(0), 0);
    due("open", x.gate(8, 3), 0);
  }
}
