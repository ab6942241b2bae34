import java.util.Random;

/** Numbers of every kind in every call, in many states: nothing is thrown, every call ends. */
public final class Wild {
  private static final int[] EDGES = {Integer.MIN_VALUE, Integer.MIN_VALUE + 1, -1000, -3, -2, -1, 60, 61, 255, 256, 511, 512,
      2047, 2048, Integer.MAX_VALUE - 1, Integer.MAX_VALUE};
  private static final Random R = new Random(17);
  private static final String LAND = "01234567ur;";

  private static int n() {
    return R.nextInt(3) == 0 ? EDGES[R.nextInt(EDGES.length)] : R.nextInt(13) - 1;
  }

  private static int b() {
    return R.nextInt(9) == 0 ? n() : R.nextInt(3) == 0 ? 'A' + R.nextInt(9) : 'a' + R.nextInt(9);
  }

  public static void main(String[] args) {
    long sum = 0;
    for (int run = 0; run < 2000; run++) {
      StampsCancel x = new StampsCancel();
      int gates = R.nextInt(10);
      for (int g = 0; g < gates; g++) {
        if (g > 0) x.type(0, ';');
        x.type(0, '0' + R.nextInt(8));
        x.type(0, '0' + R.nextInt(8));
        if (R.nextInt(3) == 0) x.type(0, 'u');
      }
      for (int call = 0; call < 400; call++) sum = 31 * sum + call(x);
    }
    System.out.println("800000 calls ended, with sum " + sum);
  }

  private static long call(StampsCancel x) {
    switch (R.nextInt(36)) {
      case 0: return R.nextInt(10) == 0 ? x.type(0, LAND.charAt(R.nextInt(LAND.length()))) : x.type(n(), n());
      case 1: return R.nextInt(30) == 0 ? x.wipe(n()) : 0;
      case 2: return x.fault(n());
      case 3: return x.gate(n(), n());
      case 4: return x.room();
      case 5: return x.shut(n());
      case 6: return x.paper(n(), n());
      case 7: return x.judged(n(), n(), n(), n());
      case 8: return x.same(n(), n());
      case 9: return x.shortest(n(), n(), n(), n(), n());
      case 10: return x.letter(n(), n(), n(), n(), n());
      case 11: return x.errands(n(), n(), n());
      case 12: return x.clean(n());
      case 13: return x.found(n(), n());
      case 14: return x.many(n(), n(), n(), n());
      case 15: return x.list(n(), n());
      case 16: return x.read(n());
      case 17: return x.unlist();
      case 18: return x.listed(n(), n());
      case 19: return x.lets(n(), n());
      case 20: return x.slips(n());
      case 21: return R.nextInt(10) == 0 ? x.fewest() : 0;
      case 22: return x.far(n(), n());
      case 23: return x.without(n(), n());
      case 24: return x.with(n(), n(), n());
      case 25: return x.sheet(n(), n(), n());
      case 26: return x.lose(n());
      case 27: return x.lay(n(), n(), n(), b());
      case 28: return x.get(n(), n(), n());
      case 29: return x.copy(n(), n(), n(), n(), n());
      case 30: return x.write(n(), n());
      case 31: return x.count(n());
      case 32: return R.nextInt(10) == 0 ? x.digest() : 0;
      default: return x.type(1 + R.nextInt(3), b());
    }
  }
}
