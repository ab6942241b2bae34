import java.util.Random;

/** Lands of bytes that a fixed seed draws, asked after every byte; Plain parses them in another manner. */
public final class LandFaults {
  public static void main(String[] args) {
    Random r = new Random(41);
    String[] pieces = {"01", "12u", "77", "r3", "r11", "r12", "r0", "r05", ";", ";", ";", ";", ";", "u", "8", "r", "3", "x", "\u00ff"};
    int wrong = 0, asked = 0;
    for (int run = 0; run < 6000; run++) {
      StampsCancel x = new StampsCancel();
      Plain p = new Plain();
      StringBuilder s = new StringBuilder();
      boolean wellMostly = r.nextInt(4) != 0;
      while (s.length() < 51) {
        if (wellMostly && r.nextInt(30) != 0) s.append(pieces[r.nextInt(r.nextInt(6) == 0 ? 8 : 3)]).append(';');
        else s.append(pieces[r.nextInt(pieces.length)]);
      }
      for (int i = 0; i < s.length(); i++) {
        long[] got = {x.type(0, s.charAt(i)), x.fault(0), x.room(), x.count(0), x.count(1)};
        long[] want = {p.type(0, s.charAt(i)), p.fault(0), p.room(), p.count(0), p.count(1)};
        for (int k = 0; k < 5; k++) {
          asked++;
          if (got[k] != want[k] && wrong++ < 40) {
            System.out.println(s.substring(0, i + 1) + ": answer " + k + " is " + got[k] + ", due is " + want[k]);
          }
        }
      }
    }
    System.out.println(asked + " answers compared, " + wrong + " unlike");
    if (wrong != 0) System.exit(1);
  }
}
